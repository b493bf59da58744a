section
theorem pk_us {f : Nat → Int32} {k : Nat} {x : Int32} : upd f k x k = x := if_pos rfl
theorem pk_un {f : Nat → Int32} {k j : Nat} {x : Int32} (h : j ≠ k) : upd f k x j = f j := if_neg h
theorem pk_sub {a b : Nat} (h : b ≤ a) : nI a - nI b = nI (a - b) := by
  obtain ⟨c, rfl⟩ : ∃ c, a = c + b := ⟨a - b, by omega⟩
  rw [← nI_add, Int32.add_sub_cancel, Nat.add_sub_cancel]
theorem pk_m1 (n : Nat) : nI (n + 1) + (-1) = nI n := by
  rw [← nI_1, Int32.add_assoc, show (1 : Int32) + (-1) = 0 from rfl, Int32.add_zero]
theorem pk_mul (a b : Nat) : nI a * nI b = nI (a * b) := (Int32.ofNat_mul a b).symm
theorem pk_ix (x : Int32) {n : Nat} (hn : n < 2 ^ 31) : x < 0 ∨ nI n ≤ x ∨ ∃ j : Nat, j < n ∧ x = nI j := by
  by_cases h : x < 0
  · exact Or.inl h
  · obtain ⟨j, hj, rfl⟩ := nI_of h
    by_cases h2 : j < n
    · exact Or.inr (Or.inr ⟨j, h2, rfl⟩)
    · exact Or.inr (Or.inl (nI_le (by omega) hj))
theorem pk_le {x y : Int32} {A B : Prop} (a b : Nat) (f : a ≤ b → A) (g : b < a → B) (hx : x = nI a := by rfl) (hy : y = nI b := by rfl) (ha : a < 2 ^ 31 := by omega) (hb : b < 2 ^ 31 := by omega) : (x ≤ y → A) ∧ (¬ x ≤ y → B) := by
  subst hx hy
  rw [nI_leI ha hb]
  exact ⟨f, fun z => g (by omega)⟩
theorem pk_lt {x y : Int32} {A B : Prop} (a b : Nat) (f : a < b → A) (g : b ≤ a → B) (hx : x = nI a := by rfl) (hy : y = nI b := by rfl) (ha : a < 2 ^ 31 := by omega) (hb : b < 2 ^ 31 := by omega) : (x < y → A) ∧ (¬ x < y → B) := by
  subst hx hy
  rw [nI_ltI ha hb]
  exact ⟨f, fun z => g (by omega)⟩
theorem pk_eq {x y : Int32} {A B : Prop} (a b : Nat) (f : a = b → A) (g : a ≠ b → B) (hx : x = nI a := by rfl) (hy : y = nI b := by rfl) (ha : a < 2 ^ 31 := by omega) (hb : b < 2 ^ 31 := by omega) : (x = y → A) ∧ (¬ x = y → B) := by
  subst hx hy
  rw [nI_eq ha hb]
  exact ⟨f, g⟩
theorem pk_in {x : Int32} (n N : Nat) (h : n < N) (hx : x = nI n := by rfl) (hN : N < 2 ^ 31 := by omega) : vp_in x N := by
  subst hx
  exact vp_in_nI h hN
theorem pk_cl {x : Int32} (n : Nat) (hx : x = nI n := by rfl) (h : n < 2 ^ 31 := by omega) : x.toNatClampNeg = n := by
  subst hx
  exact nI_clamp h
theorem pk_tn {n : Nat} (h : n < 2 ^ 32) : (nI n).toBitVec.toNat = n := Nat.mod_eq_of_lt h
theorem pk_shl (a s : Int32) (k : Nat) (hs : (s.toBitVec.smod 32).toNat = k) : (a <<< s).toBitVec.toNat = a.toBitVec.toNat * 2 ^ k % 2 ^ 32 := by
  show (a.toBitVec <<< (s.toBitVec.smod 32).toNat).toNat = _
  rw [hs, BitVec.toNat_shiftLeft, Nat.shiftLeft_eq]
theorem pk_shlN {n : Nat} (s : Int32) (k : Nat) (hs : (s.toBitVec.smod 32).toNat = k) (h : n * 2 ^ k < 2 ^ 32) : nI n <<< s = nI (n * 2 ^ k) := by
  apply Int32.toBitVec_inj.mp
  apply BitVec.eq_of_toNat_eq
  have hn : n < 2 ^ 32 := Nat.lt_of_le_of_lt (Nat.le_mul_of_pos_right n (Nat.two_pow_pos k)) h
  rw [pk_shl _ _ k hs, pk_tn hn, pk_tn h, Nat.mod_eq_of_lt h]
theorem pk_shr (a s : Int32) (k : Nat) (hs : (s.toBitVec.smod 32).toNat = k) : (a >>> s).toInt = a.toInt >>> k := by
  show (a.toBitVec.sshiftRight (s.toBitVec.smod 32).toNat).toInt = _
  rw [hs, BitVec.toInt_sshiftRight]
  rfl
theorem pk_shrN {n : Nat} (h : n < 2 ^ 31) (s : Int32) (k : Nat) (hs : (s.toBitVec.smod 32).toNat = k) : nI n >>> s = nI (n / 2 ^ k) := by
  apply Int32.toInt_inj.mp
  have h2 : n / 2 ^ k ≤ n := Nat.div_le_self _ _
  rw [pk_shr _ _ k hs, nI_toInt h, nI_toInt (by omega), Int.shiftRight_eq_div_pow]
  rfl
theorem pk_loop {σ : Type} (W : Nat → Nat → σ → Prop) (I : Nat → σ → Prop) (e i0 : Nat) (s : σ) (hi : i0 ≤ e) (h0 : I i0 s) (hx : ∀ n s, I e s → W (n + 1) e s)
    (hs : ∀ n i s, i < e → I i s → (∀ s', I (i + 1) s' → W n (i + 1) s') → W (n + 1) i s) : ∃ n, W n i0 s :=
  ⟨e + 1, loop_i W I e hx hs (e + 1) i0 s hi (by omega) h0⟩
theorem lp1 {A1 : Type} (W : Nat → A1 → Prop) (I : A1 → Prop) (μ : A1 → Nat) (hs : ∀ (n : Nat) (a1 : A1), I a1 → (∀ (b1 : A1), I b1 → μ b1 < μ a1 → W n b1) → W (n + 1) a1) (a1 : A1) (h : I a1) : ∃ n, W n a1 :=
  loop_m (σ := A1) (fun n s => W n s) (fun s => I s) (fun s => μ s) (fun n s hI hk => hs n s hI (fun b1 h9 hm => hk b1 h9 hm)) a1 h
theorem lp2 {A1 A2 : Type} (W : Nat → A1 → A2 → Prop) (I : A1 → A2 → Prop) (μ : A1 → A2 → Nat) (hs : ∀ (n : Nat) (a1 : A1) (a2 : A2), I a1 a2 → (∀ (b1 : A1) (b2 : A2), I b1 b2 → μ b1 b2 < μ a1 a2 → W n b1 b2) → W (n + 1) a1 a2) (a1 : A1) (a2 : A2) (h : I a1 a2) : ∃ n, W n a1 a2 :=
  loop_m (σ := A1 × A2) (fun n s => W n s.1 s.2) (fun s => I s.1 s.2) (fun s => μ s.1 s.2) (fun n s hI hk => hs n s.1 s.2 hI (fun b1 b2 h9 hm => hk (b1, b2) h9 hm)) (a1, a2) h
theorem lp3 {A1 A2 A3 : Type} (W : Nat → A1 → A2 → A3 → Prop) (I : A1 → A2 → A3 → Prop) (μ : A1 → A2 → A3 → Nat) (hs : ∀ (n : Nat) (a1 : A1) (a2 : A2) (a3 : A3), I a1 a2 a3 → (∀ (b1 : A1) (b2 : A2) (b3 : A3), I b1 b2 b3 → μ b1 b2 b3 < μ a1 a2 a3 → W n b1 b2 b3) → W (n + 1) a1 a2 a3) (a1 : A1) (a2 : A2) (a3 : A3) (h : I a1 a2 a3) : ∃ n, W n a1 a2 a3 :=
  loop_m (σ := A1 × A2 × A3) (fun n s => W n s.1 s.2.1 s.2.2) (fun s => I s.1 s.2.1 s.2.2) (fun s => μ s.1 s.2.1 s.2.2) (fun n s hI hk => hs n s.1 s.2.1 s.2.2 hI (fun b1 b2 b3 h9 hm => hk (b1, b2, b3) h9 hm)) (a1, a2, a3) h
theorem lp4 {A1 A2 A3 A4 : Type} (W : Nat → A1 → A2 → A3 → A4 → Prop) (I : A1 → A2 → A3 → A4 → Prop) (μ : A1 → A2 → A3 → A4 → Nat) (hs : ∀ (n : Nat) (a1 : A1) (a2 : A2) (a3 : A3) (a4 : A4), I a1 a2 a3 a4 → (∀ (b1 : A1) (b2 : A2) (b3 : A3) (b4 : A4), I b1 b2 b3 b4 → μ b1 b2 b3 b4 < μ a1 a2 a3 a4 → W n b1 b2 b3 b4) → W (n + 1) a1 a2 a3 a4) (a1 : A1) (a2 : A2) (a3 : A3) (a4 : A4) (h : I a1 a2 a3 a4) : ∃ n, W n a1 a2 a3 a4 :=
  loop_m (σ := A1 × A2 × A3 × A4) (fun n s => W n s.1 s.2.1 s.2.2.1 s.2.2.2) (fun s => I s.1 s.2.1 s.2.2.1 s.2.2.2) (fun s => μ s.1 s.2.1 s.2.2.1 s.2.2.2) (fun n s hI hk => hs n s.1 s.2.1 s.2.2.1 s.2.2.2 hI (fun b1 b2 b3 b4 h9 hm => hk (b1, b2, b3, b4) h9 hm)) (a1, a2, a3, a4) h
theorem lp5 {A1 A2 A3 A4 A5 : Type} (W : Nat → A1 → A2 → A3 → A4 → A5 → Prop) (I : A1 → A2 → A3 → A4 → A5 → Prop) (μ : A1 → A2 → A3 → A4 → A5 → Nat) (hs : ∀ (n : Nat) (a1 : A1) (a2 : A2) (a3 : A3) (a4 : A4) (a5 : A5), I a1 a2 a3 a4 a5 → (∀ (b1 : A1) (b2 : A2) (b3 : A3) (b4 : A4) (b5 : A5), I b1 b2 b3 b4 b5 → μ b1 b2 b3 b4 b5 < μ a1 a2 a3 a4 a5 → W n b1 b2 b3 b4 b5) → W (n + 1) a1 a2 a3 a4 a5) (a1 : A1) (a2 : A2) (a3 : A3) (a4 : A4) (a5 : A5) (h : I a1 a2 a3 a4 a5) : ∃ n, W n a1 a2 a3 a4 a5 :=
  loop_m (σ := A1 × A2 × A3 × A4 × A5) (fun n s => W n s.1 s.2.1 s.2.2.1 s.2.2.2.1 s.2.2.2.2) (fun s => I s.1 s.2.1 s.2.2.1 s.2.2.2.1 s.2.2.2.2) (fun s => μ s.1 s.2.1 s.2.2.1 s.2.2.2.1 s.2.2.2.2) (fun n s hI hk => hs n s.1 s.2.1 s.2.2.1 s.2.2.2.1 s.2.2.2.2 hI (fun b1 b2 b3 b4 b5 h9 hm => hk (b1, b2, b3, b4, b5) h9 hm)) (a1, a2, a3, a4, a5) h
theorem sb_shr0 (x : Int32) : x >>> ((0 : Int32) &&& 31) = x := by
  rw [show ((0 : Int32) &&& 31) = 0 by decide]
  simp
theorem sb_shl0 (x : Int32) : x <<< ((0 : Int32) &&& 31) = x := by
  rw [show ((0 : Int32) &&& 31) = 0 by decide]
  simp
theorem sb_cl0 : (0 : Int32).toNatClampNeg = 0 := by decide
theorem sb_m1 {p : Nat} (h : 0 < p) : nI p + (-1) = nI (p - 1) := by
  obtain ⟨q, rfl⟩ : ∃ q, p = q + 1 := ⟨p - 1, by omega⟩
  exact pk_m1 q
theorem nx_and (a b : Nat) : nI a &&& nI b = nI (a &&& b) := by
  apply Int32.toBitVec_inj.1
  show BitVec.ofNat 32 a &&& BitVec.ofNat 32 b = BitVec.ofNat 32 (a &&& b)
  apply BitVec.eq_of_getLsbD_eq
  intro i hi
  simp [hi]
end
section
/-! pure: packed rows and their columns -/
theorem cq_or (a b : Nat) : nI a ||| nI b = nI (a ||| b) := by
  apply Int32.toBitVec_inj.1
  show BitVec.ofNat 32 a ||| BitVec.ofNat 32 b = BitVec.ofNat 32 (a ||| b)
  apply BitVec.eq_of_getLsbD_eq
  intro i hi
  simp [hi]
def cq_cl : Nat → Nat → Nat
  | 0, p => p / 16777216
  | 1, p => p / 256 % 65536
  | _, p => p % 256
theorem cq_c0 (p : Nat) : cq_cl 0 p = p / 16777216 := rfl
theorem cq_c1 (p : Nat) : cq_cl 1 p = p / 256 % 65536 := rfl
theorem cq_c2 (p : Nat) : cq_cl 2 p = p % 256 := rfl
def cq_pk (a b c : Nat) : Nat := a * 16777216 + (b * 256 + c)
theorem cq_k0 {a b c : Nat} (hb : b < 65536) (hc : c < 256) : cq_cl 0 (cq_pk a b c) = a := by
  rw [cq_c0, cq_pk]; omega
theorem cq_k1 {a b c : Nat} (hb : b < 65536) (hc : c < 256) : cq_cl 1 (cq_pk a b c) = b := by
  rw [cq_c1, cq_pk]; omega
theorem cq_k2 {a b c : Nat} (hc : c < 256) : cq_cl 2 (cq_pk a b c) = c := by
  rw [cq_c2, cq_pk]; omega
theorem cq_kk (p : Nat) : cq_pk (cq_cl 0 p) (cq_cl 1 p) (cq_cl 2 p) = p := by
  rw [cq_c0, cq_c1, cq_c2, cq_pk]; omega
theorem cq_kb {a b c : Nat} (ha : a < 16) (hb : b < 65536) (hc : c < 256) : cq_pk a b c < 268435456 := by
  rw [cq_pk]; omega
theorem cq_b0 {p : Nat} (h : p < 268435456) : cq_cl 0 p < 16 := by rw [cq_c0]; omega
theorem cq_b1 (p : Nat) : cq_cl 1 p < 65536 := by rw [cq_c1]; omega
theorem cq_b2 (p : Nat) : cq_cl 2 p < 256 := by rw [cq_c2]; omega
theorem cq_bb {p : Nat} (h : p < 268435456) {c : Nat} (hc : c < 3) : cq_cl c p < 65536 := by
  match c, hc with
  | 0, _ => exact Nat.lt_trans (cq_b0 h) (by decide)
  | 1, _ => exact cq_b1 p
  | 2, _ => exact Nat.lt_trans (cq_b2 p) (by decide)
theorem cq_eq {p q : Nat} (h0 : cq_cl 0 p = cq_cl 0 q) (h1 : cq_cl 1 p = cq_cl 1 q) (h2 : cq_cl 2 p = cq_cl 2 q) : p = q :=
  (cq_kk p).symm.trans ((by rw [h0, h1, h2] : cq_pk (cq_cl 0 p) (cq_cl 1 p) (cq_cl 2 p) = cq_pk (cq_cl 0 q) (cq_cl 1 q) (cq_cl 2 q)).trans (cq_kk q))
theorem cq_l0 {p q : Nat} (h : cq_cl 0 p < cq_cl 0 q) : p < q := by
  simp only [cq_c0] at h; omega
theorem cq_l1 {p q : Nat} (e : cq_cl 0 p = cq_cl 0 q) (h : cq_cl 1 p < cq_cl 1 q) : p < q := by
  simp only [cq_c0] at e
  simp only [cq_c1] at h
  omega
theorem cq_l2 {p q : Nat} (e : cq_cl 0 p = cq_cl 0 q) (e1 : cq_cl 1 p = cq_cl 1 q) (h : cq_cl 2 p < cq_cl 2 q) : p < q := by
  simp only [cq_c0] at e
  simp only [cq_c1] at e1
  simp only [cq_c2] at h
  omega
theorem cq_catA {n p a b c d : Nat} (hp : 2 ^ n = p) (hb : b < p) (hd : d < p) : (p * a + b) &&& (p * c + d) = p * (a &&& c) + (b &&& d) := by
  subst hp
  apply Nat.eq_of_testBit_eq
  intro j
  rw [Nat.testBit_and, Nat.testBit_two_pow_mul_add _ hb, Nat.testBit_two_pow_mul_add _ hd, Nat.testBit_two_pow_mul_add _ (Nat.and_lt_two_pow b hd)]
  by_cases h : j < n
  · simp only [if_pos h, Nat.testBit_and]
  · simp only [if_neg h, Nat.testBit_and]
theorem cq_and3 {a b c a' b' c' : Nat} (hb : b < 65536) (hc : c < 256) (hb' : b' < 65536) (hc' : c' < 256) : cq_pk a b c &&& cq_pk a' b' c' = cq_pk (a &&& a') (b &&& b') (c &&& c') := by
  have e : ∀ x y z : Nat, cq_pk x y z = 16777216 * x + (256 * y + z) := fun x y z => by unfold cq_pk; omega
  rw [e, e, e, cq_catA (n := 24) (p := 16777216) rfl (by omega) (by omega), cq_catA (n := 8) (p := 256) rfl hc hc']
theorem cq_m {a b c : Nat} (p : Nat) (hb : b < 65536) (hc : c < 256) : p &&& cq_pk a b c = cq_pk (cq_cl 0 p &&& a) (cq_cl 1 p &&& b) (cq_cl 2 p &&& c) := by
  have e := cq_and3 (a := cq_cl 0 p) (a' := a) (cq_b1 p) (cq_b2 p) hb hc
  rw [cq_kk] at e
  exact e
theorem cq_a4 {x : Nat} (h : x < 16) : x &&& 15 = x := by
  rw [show (15 : Nat) = 2 ^ 4 - 1 from rfl, Nat.and_two_pow_sub_one_eq_mod]
  exact Nat.mod_eq_of_lt h
theorem cq_a16 {x : Nat} (h : x < 65536) : x &&& 65535 = x := by
  rw [show (65535 : Nat) = 2 ^ 16 - 1 from rfl, Nat.and_two_pow_sub_one_eq_mod]
  exact Nat.mod_eq_of_lt h
theorem cq_a8 {x : Nat} (h : x < 256) : x &&& 255 = x := by
  rw [show (255 : Nat) = 2 ^ 8 - 1 from rfl, Nat.and_two_pow_sub_one_eq_mod]
  exact Nat.mod_eq_of_lt h
theorem cq_pack {a b c : Nat} (ha : a < 16) (hb : b < 65536) (hc : c < 256) : (nI a <<< ((24 : Int32) &&& 31)) ||| (nI b <<< ((8 : Int32) &&& 31)) ||| nI c = nI (cq_pk a b c) := by
  rw [pk_shlN _ 24 (by decide) (by omega), pk_shlN _ 8 (by decide) (by omega), cq_or, cq_or]
  have h1 : 2 ^ 8 * b + c = 2 ^ 8 * b ||| c := Nat.two_pow_add_eq_or_of_lt hc b
  have h2 : 2 ^ 24 * a + (2 ^ 8 * b + c) = 2 ^ 24 * a ||| (2 ^ 8 * b + c) := Nat.two_pow_add_eq_or_of_lt (by omega) a
  rw [Nat.or_assoc, Nat.mul_comm b, ← h1, Nat.mul_comm a, ← h2]
  exact congrArg nI (by unfold cq_pk; omega)
theorem cq_M0 : (251658240 : Int32) = nI (cq_pk 15 0 0) := by decide
theorem cq_M1 : (16776960 : Int32) = nI (cq_pk 0 65535 0) := by decide
theorem cq_M2 : (255 : Int32) = nI (cq_pk 0 0 255) := by decide
theorem cq_col0 {p : Nat} (h : p < 268435456) : (nI p &&& 251658240) >>> ((24 : Int32) &&& 31) = nI (cq_cl 0 p) := by
  rw [cq_M0, nx_and, cq_m p (by decide) (by decide), cq_a4 (cq_b0 h), Nat.and_zero, Nat.and_zero]
  have hb := cq_b0 h
  rw [pk_shrN (Nat.lt_trans (cq_kb hb (by decide) (by decide)) (by decide)) _ 24 (by decide)]
  exact congrArg nI (by unfold cq_pk; omega)
theorem cq_col1 {p : Nat} (h : p < 268435456) : (nI p &&& 16776960) >>> ((8 : Int32) &&& 31) = nI (cq_cl 1 p) := by
  rw [cq_M1, nx_and, cq_m p (by decide) (by decide), cq_a16 (cq_b1 p), Nat.and_zero, Nat.and_zero]
  rw [pk_shrN (Nat.lt_trans (cq_kb (by decide) (cq_b1 p) (by decide)) (by decide)) _ 8 (by decide)]
  exact congrArg nI (by unfold cq_pk; omega)
theorem cq_col2 (p : Nat) : nI p &&& 255 = nI (cq_cl 2 p) := by
  rw [cq_M2, nx_and, cq_m p (by decide) (by decide), cq_a8 (cq_b2 p), Nat.and_zero, Nat.and_zero]
  exact congrArg nI (by unfold cq_pk; omega)
/-! the projection -/
def cq_mk (m : Nat) : Nat := cq_pk (if m % 2 = 1 then 15 else 0) (if m / 2 % 2 = 1 then 65535 else 0) (if m / 4 % 2 = 1 then 255 else 0)
def cq_pr (m p : Nat) : Nat := p &&& cq_mk m
theorem cq_prE (m p : Nat) : cq_pr m p = cq_pk (cq_cl 0 p &&& (if m % 2 = 1 then 15 else 0)) (cq_cl 1 p &&& (if m / 2 % 2 = 1 then 65535 else 0)) (cq_cl 2 p &&& (if m / 4 % 2 = 1 then 255 else 0)) := by
  unfold cq_pr cq_mk
  exact cq_m p (by split <;> decide) (by split <;> decide)
theorem cq_prb {m p : Nat} (h : p < 268435456) : cq_pr m p < 268435456 := Nat.lt_of_le_of_lt Nat.and_le_left h
theorem cq_pr0 {m p : Nat} (h : p < 268435456) : cq_cl 0 (cq_pr m p) = if m % 2 = 1 then cq_cl 0 p else 0 := by
  rw [cq_prE, cq_k0 (Nat.lt_of_le_of_lt Nat.and_le_left (cq_b1 p)) (Nat.lt_of_le_of_lt Nat.and_le_left (cq_b2 p))]
  split
  · exact cq_a4 (cq_b0 h)
  · exact Nat.and_zero _
theorem cq_pr1 (m p : Nat) : cq_cl 1 (cq_pr m p) = if m / 2 % 2 = 1 then cq_cl 1 p else 0 := by
  rw [cq_prE, cq_k1 (Nat.lt_of_le_of_lt Nat.and_le_left (cq_b1 p)) (Nat.lt_of_le_of_lt Nat.and_le_left (cq_b2 p))]
  split
  · exact cq_a16 (cq_b1 p)
  · exact Nat.and_zero _
theorem cq_pr2 (m p : Nat) : cq_cl 2 (cq_pr m p) = if m / 4 % 2 = 1 then cq_cl 2 p else 0 := by
  rw [cq_prE, cq_k2 (Nat.lt_of_le_of_lt Nat.and_le_left (cq_b2 p))]
  split
  · exact cq_a8 (cq_b2 p)
  · exact Nat.and_zero _
/-! a list that lies in cells from o on -/
def cq_S (P : Nat → Nat → Prop) (o : Nat) (L : List Nat) : Prop := ∀ i, i < L.length → P (o + i) (L.getD i 0)
theorem cq_gl {A B : List Nat} {i : Nat} (h : i < A.length) : (A ++ B).getD i 0 = A.getD i 0 := by
  rw [List.getD_eq_getElem?_getD, List.getD_eq_getElem?_getD, List.getElem?_append_left h]
theorem cq_ge {A : List Nat} {x : Nat} : (A ++ [x]).getD A.length 0 = x := by
  rw [List.getD_eq_getElem?_getD, List.getElem?_append_right (Nat.le_refl _)]
  simp
theorem cq_gd {L : List Nat} {i : Nat} (h : i < L.length) : L.getD i 0 = L[i] := by
  rw [List.getD_eq_getElem?_getD, List.getElem?_eq_getElem h]
  rfl
theorem cq_gm {L : List Nat} {i : Nat} (h : i < L.length) : L.getD i 0 ∈ L := by
  rw [cq_gd h]; exact List.getElem_mem h
theorem cq_dr {L : List Nat} {i : Nat} (h : i < L.length) : L.drop i = L.getD i 0 :: L.drop (i + 1) := by
  rw [List.drop_eq_getElem_cons h, cq_gd h]
theorem cq_tk {L : List Nat} {i : Nat} (h : i < L.length) : L.take (i + 1) = L.take i ++ [L.getD i 0] := by
  rw [List.take_succ_eq_append_getElem h, cq_gd h]
theorem cq_gmap {L : List Nat} {f : Nat → Nat} {i : Nat} (h : i < L.length) : (L.map f).getD i 0 = f (L.getD i 0) := by
  rw [cq_gd (by rw [List.length_map]; exact h), List.getElem_map, cq_gd h]
theorem cq_snoc {P Q : Nat → Nat → Prop} {o x : Nat} {L : List Nat} (h : cq_S P o L) (hi : ∀ j y, o ≤ j → j < o + L.length → P j y → Q j y) (hx : Q (o + L.length) x) : cq_S Q o (L ++ [x]) := by
  intro i hi'
  rw [List.length_append, List.length_singleton] at hi'
  by_cases e : i < L.length
  · rw [cq_gl e]
    exact hi _ _ (by omega) (by omega) (h i e)
  · have e2 : i = L.length := by omega
    subst e2
    rw [cq_ge]
    exact hx
theorem cq_imp {P Q : Nat → Nat → Prop} {o : Nat} {L : List Nat} (h : cq_S P o L) (hi : ∀ j y, o ≤ j → j < o + L.length → P j y → Q j y) : cq_S Q o L :=
  fun i hi' => hi _ _ (by omega) (by omega) (h i hi')
theorem cq_nil (P : Nat → Nat → Prop) (o : Nat) : cq_S P o [] := fun i h => absurd h (Nat.not_lt_zero i)
def cq_X (a : Nat → Int32) (o x : Nat) : Prop := a o = nI x
def cq_Y (r : Nat → Int32) (o x : Nat) : Prop := r (o * 3) = nI (cq_cl 0 x) ∧ r (o * 3 + 1) = nI (cq_cl 1 x) ∧ r (o * 3 + 2) = nI (cq_cl 2 x)
theorem cq_Yc {r : Nat → Int32} {o x c : Nat} (h : cq_Y r o x) (hc : c < 3) : r (o * 3 + c) = nI (cq_cl c x) := by
  match c, hc with
  | 0, _ => exact h.1
  | 1, _ => exact h.2.1
  | 2, _ => exact h.2.2
def cq_y3 (r : Nat → Int32) (o x : Nat) : Nat → Int32 := upd (upd (upd r (o * 3) (nI (cq_cl 0 x))) (o * 3 + 1) (nI (cq_cl 1 x))) (o * 3 + 2) (nI (cq_cl 2 x))
theorem cq_ys {r : Nat → Int32} {o x : Nat} : cq_Y (cq_y3 r o x) o x := by
  unfold cq_Y cq_y3
  refine ⟨?_, ?_, ?_⟩
  · rw [pk_un (by omega), pk_un (by omega), pk_us]
  · rw [pk_un (by omega), pk_us]
  · rw [pk_us]
theorem cq_yn {r : Nat → Int32} {o x o' y : Nat} (h : o' ≠ o) (hy : cq_Y r o' y) : cq_Y (cq_y3 r o x) o' y := by
  unfold cq_Y at hy ⊢
  unfold cq_y3
  refine ⟨?_, ?_, ?_⟩
  · rw [pk_un (by omega), pk_un (by omega), pk_un (by omega)]; exact hy.1
  · rw [pk_un (by omega), pk_un (by omega), pk_un (by omega)]; exact hy.2.1
  · rw [pk_un (by omega), pk_un (by omega), pk_un (by omega)]; exact hy.2.2
theorem cq_Xapp {a : Nat → Int32} {L : List Nat} {x : Nat} (h : cq_S (cq_X a) 0 L) : cq_S (cq_X (upd a L.length (nI x))) 0 (L ++ [x]) := by
  refine cq_snoc h (fun j y h1 h2 h3 => ?_) ?_
  · show upd a L.length (nI x) j = nI y
    rw [pk_un (by omega)]; exact h3
  · show upd a L.length (nI x) (0 + L.length) = nI x
    rw [Nat.zero_add, pk_us]
theorem cq_Xg {a : Nat → Int32} {L : List Nat} {i : Nat} (h : cq_S (cq_X a) 0 L) (hi : i < L.length) : a i = nI (L.getD i 0) := by
  have := h i hi
  rw [Nat.zero_add] at this
  exact this
theorem cq_Yapp {r : Nat → Int32} {L : List Nat} {o x : Nat} (h : cq_S (cq_Y r) o L) : cq_S (cq_Y (cq_y3 r (o + L.length) x)) o (L ++ [x]) :=
  cq_snoc h (fun _ _ _ h2 h3 => cq_yn (by omega) h3) cq_ys
theorem cq_Yoth {r : Nat → Int32} {L : List Nat} {o o' x : Nat} (h : cq_S (cq_Y r) o L) (hd : o' < o ∨ o + L.length ≤ o') : cq_S (cq_Y (cq_y3 r o' x)) o L :=
  cq_imp h (fun _ _ h1 h2 h3 => cq_yn (by omega) h3)
/-! every cell of a store within a bound -/
def cq_ok (b : Nat) (a : Nat → Int32) : Prop := ∀ i, ∃ k, k < b ∧ a i = nI k
theorem cq_okU {b k p : Nat} {a : Nat → Int32} (h : cq_ok b a) (hk : k < b) : cq_ok b (upd a p (nI k)) := by
  intro i
  by_cases e : i = p
  · exact ⟨k, hk, by rw [e, pk_us]⟩
  · obtain ⟨k', h1, h2⟩ := h i
    exact ⟨k', h1, by rw [pk_un e, h2]⟩
theorem cq_okM {b p q : Nat} {a : Nat → Int32} (h : cq_ok b a) : cq_ok b (upd a p (a q)) := by
  obtain ⟨k, h1, h2⟩ := h q
  rw [h2]
  exact cq_okU h h1
theorem cq_okK {b : Nat} {a : Nat → Int32} (h : cq_ok b a) (hb : b < 2 ^ 31) (i : Nat) : a i = nI (a i).toNatClampNeg ∧ (a i).toNatClampNeg < b := by
  obtain ⟨k, h1, h2⟩ := h i
  rw [h2, nI_clamp (by omega)]
  exact ⟨rfl, h1⟩
theorem cq_ok0 {b : Nat} (h : 0 < b) : cq_ok b (fun _ => 0) := fun _ => ⟨0, h, nI_0.symm⟩
end
section
/-! sorting: one sorted arrangement; swaps of a function's values -/
def cq_so (L : List Nat) : List Nat := L.mergeSort (fun a b => decide (a ≤ b))
theorem cq_sop (L : List Nat) : List.Perm (cq_so L) L := List.mergeSort_perm L _
theorem cq_sos (L : List Nat) : (cq_so L).Pairwise (· ≤ ·) := by
  have h := List.pairwise_mergeSort (le := fun a b : Nat => decide (a ≤ b)) (fun a b c h1 h2 => decide_eq_true (Nat.le_trans (of_decide_eq_true h1) (of_decide_eq_true h2))) (fun a b => by rcases Nat.le_total a b with h | h <;> simp [h]) L
  exact h.imp (fun h => of_decide_eq_true h)
theorem cq_sou {S L : List Nat} (hs : S.Pairwise (· ≤ ·)) (hp : List.Perm S L) : S = cq_so L :=
  List.Perm.eq_of_pairwise (le := (· ≤ ·)) (fun _ _ _ _ h1 h2 => Nat.le_antisymm h1 h2) hs (cq_sos L) (hp.trans (cq_sop L).symm)
theorem cq_sol (L : List Nat) : (cq_so L).length = L.length := (cq_sop L).length_eq
theorem cq_som {L : List Nat} {x : Nat} : x ∈ cq_so L ↔ x ∈ L := (cq_sop L).mem_iff
def cq_L (n : Nat) (f : Nat → Nat) : List Nat := (List.range n).map f
theorem cq_Ll (n : Nat) (f : Nat → Nat) : (cq_L n f).length = n := by unfold cq_L; simp
theorem cq_Lg {n : Nat} {f : Nat → Nat} {i : Nat} (h : i < n) : (cq_L n f).getD i 0 = f i := by
  rw [cq_gd (by rw [cq_Ll]; exact h)]
  unfold cq_L
  simp
theorem cq_LE (L : List Nat) : cq_L L.length (fun q => L.getD q 0) = L := by
  apply List.ext_getElem (cq_Ll _ _)
  intro i h1 h2
  rw [← cq_gd h1, ← cq_gd h2, cq_Lg h2]
theorem cq_Ls {n : Nat} {f : Nat → Nat} (h : ∀ p q, p < q → q < n → f p ≤ f q) : (cq_L n f).Pairwise (· ≤ ·) := by
  rw [List.pairwise_iff_getElem]
  intro i j hi hj hij
  rw [← cq_gd hi, ← cq_gd hj]
  rw [cq_Ll] at hi hj
  rw [cq_Lg hi, cq_Lg hj]
  exact h i j hij hj
def cq_sw (f : Nat → Nat) (i j : Nat) : Nat → Nat := fun q => if q = i then f j else if q = j then f i else f q
theorem cq_sw1 {f : Nat → Nat} {i j : Nat} : cq_sw f i j i = f j := if_pos rfl
theorem cq_sw2 {f : Nat → Nat} {i j : Nat} : cq_sw f i j j = f i := by
  unfold cq_sw
  by_cases h : j = i
  · rw [if_pos h, h]
  · rw [if_neg h, if_pos rfl]
theorem cq_sw3 {f : Nat → Nat} {i j q : Nat} (h1 : q ≠ i) (h2 : q ≠ j) : cq_sw f i j q = f q := by
  unfold cq_sw
  rw [if_neg h1, if_neg h2]
theorem cq_swp {n : Nat} {f : Nat → Nat} {i j : Nat} (hi : i < n) (hj : j < n) : List.Perm (cq_L n (cq_sw f i j)) (cq_L n f) := by
  have li : i < (cq_L n f).length := by rw [cq_Ll]; exact hi
  have lj : j < (cq_L n f).length := by rw [cq_Ll]; exact hj
  have h := List.set_set_perm li lj
  have e : cq_L n (cq_sw f i j) = ((cq_L n f).set i (cq_L n f)[j]).set j (cq_L n f)[i] := by
    apply List.ext_getElem
    · rw [List.length_set, List.length_set, cq_Ll, cq_Ll]
    · intro q h1 h2
      have gi : (cq_L n f)[i] = f i := by rw [← cq_gd li, cq_Lg hi]
      have gj : (cq_L n f)[j] = f j := by rw [← cq_gd lj, cq_Lg hj]
      rw [← cq_gd h1, List.getElem_set, List.getElem_set]
      rw [cq_Ll] at h1
      rw [cq_Lg h1]
      have h3 : q < (cq_L n f).length := by rw [cq_Ll]; exact h1
      have gq : (cq_L n f)[q] = f q := by rw [← cq_gd h3, cq_Lg h1]
      by_cases e1 : j = q
      · rw [if_pos e1, gi, ← e1]; exact cq_sw2
      · rw [if_neg e1]
        by_cases e2 : i = q
        · rw [if_pos e2, gj, ← e2]; exact cq_sw1
        · rw [if_neg e2, gq]
          exact cq_sw3 (fun z => e2 z.symm) (fun z => e1 z.symm)
  rw [e]
  exact h
/-! the difference of two sorted lists: by a merge, and by counts -/
def cq_md : List Nat → List Nat → List Nat
  | [], _ => []
  | a :: F, O => match O.dropWhile (fun o => decide (o < a)) with
    | [] => a :: cq_md F []
    | o :: O' => if o = a then cq_md F O' else a :: cq_md F (o :: O')
theorem cq_mdn (a : Nat) (F : List Nat) : cq_md (a :: F) [] = a :: cq_md F [] := by simp [cq_md]
theorem cq_mdl {a o : Nat} {F O : List Nat} (h : o < a) : cq_md (a :: F) (o :: O) = cq_md (a :: F) O := by
  simp [cq_md, List.dropWhile_cons, h]
theorem cq_mde {a : Nat} {F O : List Nat} : cq_md (a :: F) (a :: O) = cq_md F O := by
  simp [cq_md, List.dropWhile_cons]
theorem cq_mdg {a o : Nat} {F O : List Nat} (h : a < o) : cq_md (a :: F) (o :: O) = a :: cq_md F (o :: O) := by
  have h1 : ¬ o < a := by omega
  have h2 : ¬ o = a := by omega
  simp [cq_md, List.dropWhile_cons, h1, h2]
theorem cq_md0 : ∀ F : List Nat, cq_md F [] = F
  | [] => rfl
  | a :: F => by rw [cq_mdn, cq_md0 F]
theorem cq_mds : ∀ F O : List Nat, List.Sublist (cq_md F O) F
  | [], _ => List.Sublist.slnil
  | a :: F, O => by
    rw [cq_md]
    split
    · exact List.Sublist.cons_cons a (cq_mds F [])
    · split
      · exact List.Sublist.cons a (cq_mds F _)
      · exact List.Sublist.cons_cons a (cq_mds F _)
def cq_su (O : List Nat) : List Nat → List Nat → List Nat
  | _, [] => []
  | pre, a :: F => (if O.count a ≤ pre.count a then [a] else []) ++ cq_su O (pre ++ [a]) F
theorem cq_cs (x a : Nat) (pre : List Nat) : (pre ++ [a]).count x = pre.count x + (if a = x then 1 else 0) := by
  rw [List.count_append, List.count_singleton]
  by_cases h : a = x
  · simp [h]
  · simp [h]
theorem cq_cc (x a : Nat) (L : List Nat) : (a :: L).count x = L.count x + (if a = x then 1 else 0) := by
  rw [List.count_cons]
  by_cases h : a = x
  · simp [h]
  · simp [h]
theorem cq_mdsu (O : List Nat) : ∀ F pre O1 : List Nat, F.Pairwise (· ≤ ·) → O1.Pairwise (· ≤ ·) → (∀ x, x ∈ F → O1.count x = O.count x - pre.count x) → cq_md F O1 = cq_su O pre F := by
  intro F
  induction F with
  | nil => intro pre O1 _ _ _; rfl
  | cons a F ih =>
    intro pre O1 hF
    obtain ⟨hF1, hF2⟩ := List.pairwise_cons.mp hF
    induction O1 with
    | nil =>
      intro _ hc
      have ha := hc a List.mem_cons_self
      rw [List.count_nil] at ha
      rw [cq_mdn, cq_su, if_pos (by omega)]
      refine congrArg (a :: ·) (ih (pre ++ [a]) [] hF2 List.Pairwise.nil (fun x hx => ?_))
      have h := hc x (List.mem_cons_of_mem a hx)
      rw [List.count_nil] at h ⊢
      rw [cq_cs]
      omega
    | cons o O1 ih2 =>
      intro hO hc
      obtain ⟨hO1, hO2⟩ := List.pairwise_cons.mp hO
      rcases Nat.lt_trichotomy o a with h | h | h
      · rw [cq_mdl h]
        refine ih2 hO2 (fun x hx => ?_)
        have h2 := hc x hx
        rw [cq_cc] at h2
        have h3 : a ≤ x := by
          rcases List.mem_cons.mp hx with e | hx
          · omega
          · exact hF1 x hx
        rw [if_neg (by omega)] at h2
        omega
      · subst h
        have ha := hc o List.mem_cons_self
        rw [cq_cc, if_pos rfl] at ha
        rw [cq_mde, cq_su, if_neg (by omega), List.nil_append]
        refine ih (pre ++ [o]) O1 hF2 hO2 (fun x hx => ?_)
        have h2 := hc x (List.mem_cons_of_mem o hx)
        rw [cq_cc] at h2
        rw [cq_cs]
        by_cases e : o = x
        · rw [if_pos e] at h2 ⊢
          omega
        · rw [if_neg e] at h2 ⊢
          omega
      · have ha := hc a List.mem_cons_self
        have h0 : (o :: O1).count a = 0 := by
          apply List.count_eq_zero_of_not_mem
          intro hm
          rcases List.mem_cons.mp hm with e | hm
          · omega
          · have := hO1 a hm
            omega
        rw [cq_mdg h, cq_su, if_pos (by omega)]
        refine congrArg (a :: ·) (ih (pre ++ [a]) (o :: O1) hF2 hO (fun x hx => ?_))
        have h2 := hc x (List.mem_cons_of_mem a hx)
        rw [cq_cs]
        by_cases e : a = x
        · rw [if_pos e, ← e]
          rw [← e] at h2
          omega
        · rw [if_neg e]
          omega
theorem cq_mdE {F O : List Nat} (hF : F.Pairwise (· ≤ ·)) (hO : O.Pairwise (· ≤ ·)) : cq_su O [] F = cq_md F O :=
  (cq_mdsu O F [] O hF hO (fun x _ => by rw [List.count_nil]; omega)).symm
/-! the rows before the relation is made: base rows, groups -/
def cq_pz (op c z : Int32) : Bool :=
  if op = 1 then decide (z = c) else if op = 2 then decide (¬ z = c) else if op = 3 then decide (z < c) else if op = 4 then decide (c < z) else true
def cq_ps (op fl c k v : Int32) : Bool := cq_pz op c (if fl = 0 then k else v)
def cq_in (K V : Nat → Nat) (q : Nat → Bool) (i : Nat) : Nat → List Nat
  | 0 => []
  | j + 1 => if K (12 + j) = K i ∧ q j = true then cq_in K V q i j ++ [cq_pk (K i) (V i) (V (12 + j))] else cq_in K V q i j
def cq_rw (jn : Bool) (K V : Nat → Nat) (p q : Nat → Bool) (h1 i : Nat) : List Nat :=
  if p i = true then (if jn = true then cq_in K V q i h1 else [cq_pk (K i) (V i) 0]) else []
def cq_bs (jn : Bool) (K V : Nat → Nat) (p q : Nat → Bool) (h1 : Nat) : Nat → List Nat
  | 0 => []
  | i + 1 => cq_bs jn K V p q h1 i ++ cq_rw jn K V p q h1 i
theorem cq_inl (K V : Nat → Nat) (q : Nat → Bool) (i : Nat) : ∀ j, (cq_in K V q i j).length ≤ j
  | 0 => Nat.le_refl _
  | j + 1 => by
    have := cq_inl K V q i j
    rw [cq_in]
    split
    · rw [List.length_append, List.length_singleton]; omega
    · omega
theorem cq_rwl (jn : Bool) (K V : Nat → Nat) (p q : Nat → Bool) {h1 : Nat} (h : h1 ≤ 12) (i : Nat) : (cq_rw jn K V p q h1 i).length ≤ 12 := by
  unfold cq_rw
  split
  · split
    · exact Nat.le_trans (cq_inl K V q i h1) h
    · rw [List.length_singleton]; omega
  · rw [List.length_nil]; omega
theorem cq_bsl (jn : Bool) (K V : Nat → Nat) (p q : Nat → Bool) {h1 : Nat} (h : h1 ≤ 12) : ∀ i, (cq_bs jn K V p q h1 i).length ≤ 12 * i
  | 0 => Nat.le_refl _
  | i + 1 => by
    have a := cq_bsl jn K V p q h i
    have b := cq_rwl jn K V p q h i
    rw [cq_bs, List.length_append]
    omega
def cq_B (x : Nat) : Prop := x < 268435456 ∧ cq_cl 1 x < 256
theorem cq_Bk {a b c : Nat} (ha : a < 16) (hb : b < 256) (hc : c < 256) : cq_B (cq_pk a b c) :=
  ⟨cq_kb ha (by omega) hc, by rw [cq_k1 (by omega) hc]; exact hb⟩
theorem cq_inB {K V : Nat → Nat} (hK : ∀ i, K i < 16) (hV : ∀ i, V i < 256) (q : Nat → Bool) (i : Nat) : ∀ j x, x ∈ cq_in K V q i j → cq_B x
  | 0, x, h => absurd h (List.not_mem_nil)
  | j + 1, x, h => by
    rw [cq_in] at h
    split at h
    · rcases List.mem_append.mp h with h | h
      · exact cq_inB hK hV q i j x h
      · rw [List.mem_singleton.mp h]
        exact cq_Bk (hK _) (hV _) (hV _)
    · exact cq_inB hK hV q i j x h
theorem cq_bsB {K V : Nat → Nat} (hK : ∀ i, K i < 16) (hV : ∀ i, V i < 256) (jn : Bool) (p q : Nat → Bool) (h1 : Nat) : ∀ i x, x ∈ cq_bs jn K V p q h1 i → cq_B x
  | 0, x, h => absurd h (List.not_mem_nil)
  | i + 1, x, h => by
    rw [cq_bs] at h
    rcases List.mem_append.mp h with h | h
    · exact cq_bsB hK hV jn p q h1 i x h
    · unfold cq_rw at h
      split at h
      · split at h
        · exact cq_inB hK hV q i h1 x h
        · rw [List.mem_singleton.mp h]
          exact cq_Bk (hK _) (hV _) (by decide)
      · exact absurd h (List.not_mem_nil)
def cq_gc (k : Nat) : List Nat → Nat
  | [] => 0
  | x :: L => (if cq_cl 0 x = k then 1 else 0) + cq_gc k L
def cq_gs (c k : Nat) : List Nat → Nat
  | [] => 0
  | x :: L => (if cq_cl 0 x = k then cq_cl c x else 0) + cq_gs c k L
theorem cq_gca (k : Nat) (x : Nat) : ∀ L : List Nat, cq_gc k (L ++ [x]) = cq_gc k L + (if cq_cl 0 x = k then 1 else 0)
  | [] => by simp [cq_gc]
  | y :: L => by rw [List.cons_append, cq_gc, cq_gc, cq_gca k x L]; omega
theorem cq_gsa (c k : Nat) (x : Nat) : ∀ L : List Nat, cq_gs c k (L ++ [x]) = cq_gs c k L + (if cq_cl 0 x = k then cq_cl c x else 0)
  | [] => by simp [cq_gs]
  | y :: L => by rw [List.cons_append, cq_gs, cq_gs, cq_gsa c k x L]; omega
theorem cq_gcl (k : Nat) : ∀ L : List Nat, cq_gc k L ≤ L.length
  | [] => Nat.le_refl _
  | x :: L => by
    have := cq_gcl k L
    rw [cq_gc, List.length_cons]
    split <;> omega
theorem cq_gsl (c k : Nat) : ∀ L : List Nat, (∀ x, x ∈ L → cq_cl c x < 256) → cq_gs c k L ≤ 255 * L.length
  | [], _ => Nat.le_refl _
  | x :: L, h => by
    have a := cq_gsl c k L (fun y hy => h y (List.mem_cons_of_mem x hy))
    have b := h x List.mem_cons_self
    rw [cq_gs, List.length_cons]
    split <;> omega
def cq_gr (ag co : Nat) (B : List Nat) (k : Nat) : Nat := cq_pk k (if ag = 1 then cq_gc k B else cq_gs co k B) 0
def cq_gp (ag co : Nat) (B : List Nat) : Nat → List Nat
  | 0 => []
  | k + 1 => if 0 < cq_gc k B then cq_gp ag co B k ++ [cq_gr ag co B k] else cq_gp ag co B k
theorem cq_gpl (ag co : Nat) (B : List Nat) : ∀ k, (cq_gp ag co B k).length ≤ k
  | 0 => Nat.le_refl _
  | k + 1 => by
    have := cq_gpl ag co B k
    rw [cq_gp]
    split
    · rw [List.length_append, List.length_singleton]; omega
    · omega
theorem cq_gb {ag co k : Nat} {B : List Nat} (hB : ∀ x, x ∈ B → cq_B x) (hl : B.length ≤ 144) (hc : co < 3) : (if ag = 1 then cq_gc k B else cq_gs co k B) < 65536 := by
  have h1 := cq_gcl k B
  have h2 := cq_gsl co k B (fun x hx => by
    match co, hc with
    | 0, _ => exact Nat.lt_trans (cq_b0 (hB x hx).1) (by decide)
    | 1, _ => exact (hB x hx).2
    | 2, _ => exact cq_b2 x)
  split <;> omega
theorem cq_gpb {ag co : Nat} {B : List Nat} (hB : ∀ x, x ∈ B → cq_B x) (hl : B.length ≤ 144) (hc : co < 3) : ∀ k, k ≤ 16 → ∀ x, x ∈ cq_gp ag co B k → x < 268435456
  | 0, _, x, h => absurd h (List.not_mem_nil)
  | k + 1, hk, x, h => by
    rw [cq_gp] at h
    split at h
    · rcases List.mem_append.mp h with h | h
      · exact cq_gpb hB hl hc k (by omega) x h
      · rw [List.mem_singleton.mp h]
        exact cq_kb (by omega) (cq_gb hB hl hc) (by decide)
    · exact cq_gpb hB hl hc k (by omega) x h
def cq_n0 (ag co : Nat) (B : List Nat) : List Nat := if ag = 0 then B else cq_gp ag co B 16
theorem cq_n0l {ag co : Nat} {B : List Nat} (hl : B.length ≤ 144) : (cq_n0 ag co B).length ≤ 144 := by
  unfold cq_n0
  split
  · exact hl
  · have := cq_gpl ag co B 16
    omega
theorem cq_n0b {ag co : Nat} {B : List Nat} (hB : ∀ x, x ∈ B → cq_B x) (hl : B.length ≤ 144) (hc : co < 3) : ∀ x, x ∈ cq_n0 ag co B → x < 268435456 := by
  unfold cq_n0
  intro x hx
  split at hx
  · exact (hB x hx).1
  · exact cq_gpb hB hl hc 16 (Nat.le_refl _) x hx
def cq_nx (ag co m : Nat) (B : List Nat) : List Nat := cq_so ((cq_n0 ag co B).map (cq_pr m))
theorem cq_nxl {ag co m : Nat} {B : List Nat} (hl : B.length ≤ 144) : (cq_nx ag co m B).length ≤ 144 := by
  unfold cq_nx
  rw [cq_sol, List.length_map]
  exact cq_n0l hl
theorem cq_nxb {ag co m : Nat} {B : List Nat} (hB : ∀ x, x ∈ B → cq_B x) (hl : B.length ≤ 144) (hc : co < 3) : ∀ x, x ∈ cq_nx ag co m B → x < 268435456 := by
  unfold cq_nx
  intro x hx
  obtain ⟨y, hy, e⟩ := List.mem_map.mp (cq_som.mp hx)
  rw [← e]
  exact cq_prb (cq_n0b hB hl hc y hy)
def cq_ou (o : Nat) (S R : List Nat) : List Nat := if o = 1 then cq_md S R else if o = 2 then cq_md R S else S
theorem cq_ouS (o : Nat) (S R : List Nat) : List.Sublist (cq_ou o S R) S ∨ List.Sublist (cq_ou o S R) R := by
  unfold cq_ou
  split
  · exact Or.inl (cq_mds S R)
  · split
    · exact Or.inr (cq_mds R S)
    · exact Or.inl (List.Sublist.refl S)
end
section
/-! the stores: what leaves and what stays -/
def cq_ex (b : Nat) (lim : Int32) (t k v : Nat → Int32) : Nat → (Nat → Int32) × (Nat → Int32) × (Nat → Int32) × Nat
  | 0 => (t, k, v, 0)
  | i + 1 =>
    if lim < (cq_ex b lim t k v i).1 (b + i) then
      (upd (cq_ex b lim t k v i).1 (b + (cq_ex b lim t k v i).2.2.2) ((cq_ex b lim t k v i).1 (b + i)),
       upd (cq_ex b lim t k v i).2.1 (b + (cq_ex b lim t k v i).2.2.2) ((cq_ex b lim t k v i).2.1 (b + i)),
       upd (cq_ex b lim t k v i).2.2.1 (b + (cq_ex b lim t k v i).2.2.2) ((cq_ex b lim t k v i).2.2.1 (b + i)),
       (cq_ex b lim t k v i).2.2.2 + 1)
    else cq_ex b lim t k v i
theorem cq_ext {b : Nat} {lim : Int32} {t k v : Nat → Int32} {i : Nat} (h : lim < (cq_ex b lim t k v i).1 (b + i)) : cq_ex b lim t k v (i + 1) = (upd (cq_ex b lim t k v i).1 (b + (cq_ex b lim t k v i).2.2.2) ((cq_ex b lim t k v i).1 (b + i)), upd (cq_ex b lim t k v i).2.1 (b + (cq_ex b lim t k v i).2.2.2) ((cq_ex b lim t k v i).2.1 (b + i)), upd (cq_ex b lim t k v i).2.2.1 (b + (cq_ex b lim t k v i).2.2.2) ((cq_ex b lim t k v i).2.2.1 (b + i)), (cq_ex b lim t k v i).2.2.2 + 1) := by
  rw [cq_ex, if_pos h]
theorem cq_exf {b : Nat} {lim : Int32} {t k v : Nat → Int32} {i : Nat} (h : ¬ lim < (cq_ex b lim t k v i).1 (b + i)) : cq_ex b lim t k v (i + 1) = cq_ex b lim t k v i := by
  rw [cq_ex, if_neg h]
theorem cq_exl (b : Nat) (lim : Int32) (t k v : Nat → Int32) : ∀ i, (cq_ex b lim t k v i).2.2.2 ≤ i
  | 0 => Nat.le_refl _
  | i + 1 => by
    have := cq_exl b lim t k v i
    by_cases h : lim < (cq_ex b lim t k v i).1 (b + i)
    · rw [cq_ext h]
      show _ + 1 ≤ i + 1
      omega
    · rw [cq_exf h]; omega
theorem cq_exk {b : Nat} {lim : Int32} {t k v : Nat → Int32} (hk : cq_ok 16 k) (hv : cq_ok 256 v) : ∀ i, cq_ok 16 (cq_ex b lim t k v i).2.1 ∧ cq_ok 256 (cq_ex b lim t k v i).2.2.1
  | 0 => ⟨hk, hv⟩
  | i + 1 => by
    have ⟨h1, h2⟩ := cq_exk (b := b) (lim := lim) (t := t) hk hv i
    by_cases h : lim < (cq_ex b lim t k v i).1 (b + i)
    · rw [cq_ext h]
      exact ⟨cq_okM h1, cq_okM h2⟩
    · rw [cq_exf h]
      exact ⟨h1, h2⟩
def cq_rm (b : Nat) (a : Nat → Int32) : Nat → (Nat → Int32)
  | 0 => a
  | i + 1 => upd (cq_rm b a i) (b + i) (cq_rm b a i (b + i + 1))
theorem cq_rmk {b c : Nat} {a : Nat → Int32} (h : cq_ok c a) : ∀ i, cq_ok c (cq_rm b a i)
  | 0 => h
  | i + 1 => by
    rw [cq_rm]
    exact cq_okM (cq_rmk h i)
end
section
/-! the reference's four areas: area a holds the list L, its count says so -/
def cq_ar (rs ct : Nat → Int32) (a : Nat) (L : List Nat) : Prop := cq_S (cq_Y rs) (a * 144) L ∧ ct a = nI L.length ∧ L.length ≤ 144
def cq_pv (t : Nat) (rs ct rs' ct' : Nat → Int32) : Prop := ∀ a L, a ≠ t → cq_ar rs ct a L → cq_ar rs' ct' a L
theorem cq_pvr {t : Nat} {rs ct : Nat → Int32} : cq_pv t rs ct rs ct := fun _ _ _ h => h
theorem cq_pvt {t : Nat} {a b c d e f : Nat → Int32} (h1 : cq_pv t a b c d) (h2 : cq_pv t c d e f) : cq_pv t a b e f := fun x L n h => h2 x L n (h1 x L n h)
theorem cq_arP {rs ct : Nat → Int32} {a x : Nat} {L : List Nat} (h : cq_ar rs ct a L) (hl : L.length < 144) : cq_ar (cq_y3 rs (a * 144 + L.length) x) (upd ct a (nI (L.length + 1))) a (L ++ [x]) :=
  ⟨cq_Yapp h.1, by rw [pk_us, List.length_append, List.length_singleton], by rw [List.length_append, List.length_singleton]; omega⟩
theorem cq_pvP {rs ct : Nat → Int32} {t n x : Nat} {v : Int32} (hn : n < 144) : cq_pv t rs ct (cq_y3 rs (t * 144 + n) x) (upd ct t v) := by
  intro a L ha h
  have hl := h.2.2
  refine ⟨cq_Yoth h.1 ?_, ?_, hl⟩
  · omega
  · rw [pk_un ha]; exact h.2.1
theorem cq_ar0 {rs ct : Nat → Int32} {a : Nat} : cq_ar rs (upd ct a 0) a [] :=
  ⟨cq_nil _ _, by rw [pk_us]; exact nI_0.symm, Nat.zero_le _⟩
theorem cq_pv0 {rs ct : Nat → Int32} {t : Nat} {v : Int32} : cq_pv t rs ct rs (upd ct t v) := by
  intro a L ha h
  exact ⟨h.1, by rw [pk_un ha]; exact h.2.1, h.2.2⟩
theorem cq_arY {rs ct : Nat → Int32} {a i : Nat} {L : List Nat} (h : cq_ar rs ct a L) (hi : i < L.length) : cq_Y rs (a * 144 + i) (L.getD i 0) := h.1 i hi
/-! the exchange of two rows, column by column -/
def cq_s1 (rs : Nat → Int32) (o1 o2 c : Nat) : Nat → Int32 := upd (upd rs (o1 * 3 + c) (rs (o2 * 3 + c))) (o2 * 3 + c) (rs (o1 * 3 + c))
theorem cq_s1a {rs : Nat → Int32} {o1 o2 c j : Nat} (h : o1 ≠ o2) (hj : j = o1 * 3 + c) : cq_s1 rs o1 o2 c j = rs (o2 * 3 + c) := by
  unfold cq_s1
  rw [pk_un (by omega), hj, pk_us]
theorem cq_s1b {rs : Nat → Int32} {o1 o2 c j : Nat} (hj : j = o2 * 3 + c) : cq_s1 rs o1 o2 c j = rs (o1 * 3 + c) := by
  unfold cq_s1
  rw [hj, pk_us]
theorem cq_s1c {rs : Nat → Int32} {o1 o2 c j : Nat} (h1 : j ≠ o1 * 3 + c) (h2 : j ≠ o2 * 3 + c) : cq_s1 rs o1 o2 c j = rs j := by
  unfold cq_s1
  rw [pk_un h2, pk_un h1]
def cq_s3 (rs : Nat → Int32) (o1 o2 : Nat) : Nat → Int32 := cq_s1 (cq_s1 (cq_s1 rs o1 o2 0) o1 o2 1) o1 o2 2
theorem cq_s3a {rs : Nat → Int32} {o1 o2 y : Nat} (h : o1 ≠ o2) (hy : cq_Y rs o2 y) : cq_Y (cq_s3 rs o1 o2) o1 y := by
  unfold cq_Y at hy ⊢
  unfold cq_s3
  refine ⟨?_, ?_, ?_⟩
  · rw [cq_s1c (by omega) (by omega), cq_s1c (by omega) (by omega), cq_s1a h (by omega)]; exact hy.1
  · rw [cq_s1c (by omega) (by omega), cq_s1a h (by omega), cq_s1c (by omega) (by omega)]; exact hy.2.1
  · rw [cq_s1a h (by omega), cq_s1c (by omega) (by omega), cq_s1c (by omega) (by omega)]; exact hy.2.2
theorem cq_s3b {rs : Nat → Int32} {o1 o2 x : Nat} (h : o1 ≠ o2) (hx : cq_Y rs o1 x) : cq_Y (cq_s3 rs o1 o2) o2 x := by
  unfold cq_Y at hx ⊢
  unfold cq_s3
  refine ⟨?_, ?_, ?_⟩
  · rw [cq_s1c (by omega) (by omega), cq_s1c (by omega) (by omega), cq_s1b (by omega)]; exact hx.1
  · rw [cq_s1c (by omega) (by omega), cq_s1b (by omega), cq_s1c (by omega) (by omega)]; exact hx.2.1
  · rw [cq_s1b (by omega), cq_s1c (by omega) (by omega), cq_s1c (by omega) (by omega)]; exact hx.2.2
theorem cq_s3c {rs : Nat → Int32} {o1 o2 o z : Nat} (h1 : o ≠ o1) (h2 : o ≠ o2) (hz : cq_Y rs o z) : cq_Y (cq_s3 rs o1 o2) o z := by
  unfold cq_Y at hz ⊢
  unfold cq_s3
  refine ⟨?_, ?_, ?_⟩
  · rw [cq_s1c (by omega) (by omega), cq_s1c (by omega) (by omega), cq_s1c (by omega) (by omega)]; exact hz.1
  · rw [cq_s1c (by omega) (by omega), cq_s1c (by omega) (by omega), cq_s1c (by omega) (by omega)]; exact hz.2.1
  · rw [cq_s1c (by omega) (by omega), cq_s1c (by omega) (by omega), cq_s1c (by omega) (by omega)]; exact hz.2.2
theorem cq_arS {rs ct : Nat → Int32} {a n i j : Nat} {f : Nat → Nat} (hi : i < n) (hj : j < n) (hne : i ≠ j) (h : cq_ar rs ct a (cq_L n f)) : cq_ar (cq_s3 rs (a * 144 + i) (a * 144 + j)) ct a (cq_L n (cq_sw f i j)) := by
  have hc := h.2.1
  have hl := h.2.2
  rw [cq_Ll] at hc hl
  refine ⟨fun q hq => ?_, by rw [cq_Ll]; exact hc, by rw [cq_Ll]; exact hl⟩
  rw [cq_Ll] at hq
  rw [cq_Lg hq]
  have g : ∀ p, p < n → cq_Y rs (a * 144 + p) (f p) := fun p hp => by
    have e := cq_arY h (i := p) (by rw [cq_Ll]; exact hp)
    rw [cq_Lg hp] at e
    exact e
  by_cases e1 : q = i
  · subst e1
    rw [cq_sw1]
    exact cq_s3a (by omega) (g j hj)
  · by_cases e2 : q = j
    · subst e2
      rw [cq_sw2]
      exact cq_s3b (by omega) (g i hi)
    · rw [cq_sw3 e1 e2]
      exact cq_s3c (by omega) (by omega) (g q hq)
theorem cq_pvS {rs ct : Nat → Int32} {t i j : Nat} (hi : i < 144) (hj : j < 144) : cq_pv t rs ct (cq_s3 rs (t * 144 + i) (t * 144 + j)) ct := by
  intro a L ha h
  have hl := h.2.2
  exact ⟨cq_imp h.1 (fun o y h1 h2 h3 => cq_s3c (by omega) (by omega) h3), h.2.1, hl⟩
/-! a selected row goes to its place: what is ahead is settled -/
theorem cq_sel {n i m : Nat} {f : Nat → Nat} (hi : i < n) (him : i ≤ m) (hm : m < n) (J : ∀ p q, p < i → p < q → q < n → f p ≤ f q) (hmin : ∀ q, i ≤ q → q < n → f m ≤ f q) : ∀ p q, p < i + 1 → p < q → q < n → cq_sw f i m p ≤ cq_sw f i m q := by
  intro p q hp hpq hq
  have key : ∀ x, i ≤ x → x < n → f m ≤ cq_sw f i m x := by
    intro x h1 h2
    by_cases e1 : x = i
    · rw [e1, cq_sw1]; exact Nat.le_refl _
    · by_cases e2 : x = m
      · rw [e2, cq_sw2]; exact hmin i (Nat.le_refl _) hi
      · rw [cq_sw3 e1 e2]; exact hmin x h1 h2
  by_cases e : p = i
  · rw [e, cq_sw1]
    exact key q (by omega) hq
  · rw [cq_sw3 (q := p) e (by omega)]
    by_cases e1 : q = i
    · rw [e1, cq_sw1]; exact J p m (by omega) (by omega) hm
    · by_cases e2 : q = m
      · rw [e2, cq_sw2]; exact J p i (by omega) (by omega) hi
      · rw [cq_sw3 e1 e2]; exact J p q (by omega) hpq hq
/-! an inserted row moves down past a greater one -/
theorem cq_mov {i t : Nat} {f : Nat → Nat} (ht : t + 1 ≤ i) (H : ∀ p q, p < q → q ≤ i → q ≠ t + 1 → f p ≤ f q) (hgt : f (t + 1) < f t) : ∀ p q, p < q → q ≤ i → q ≠ t → cq_sw f t (t + 1) p ≤ cq_sw f t (t + 1) q := by
  intro p q hpq hq hqt
  by_cases e1 : q = t + 1
  · rw [e1, cq_sw2]
    by_cases e2 : p = t
    · rw [e2, cq_sw1]; omega
    · rw [cq_sw3 e2 (by omega)]; exact H p t (by omega) (by omega) (by omega)
  · rw [cq_sw3 hqt e1]
    by_cases e2 : p = t
    · rw [e2, cq_sw1]
      exact H (t + 1) q (by omega) hq e1
    · by_cases e3 : p = t + 1
      · rw [e3, cq_sw2]; exact H t q (by omega) hq e1
      · rw [cq_sw3 e2 e3]; exact H p q hpq hq e1
theorem cq_mov0 {i t : Nat} {f : Nat → Nat} (H : ∀ p q, p < q → q ≤ i → q ≠ t → f p ≤ f q) (ht : t ≤ i) (he : t = 0 ∨ f (t - 1) ≤ f t) : ∀ p q, p < q → q ≤ i → f p ≤ f q := by
  intro p q hpq hq
  by_cases e : q = t
  · subst e
    rcases he with h | h
    · omega
    · by_cases e2 : p = q - 1
      · rw [e2]; exact h
      · exact Nat.le_trans (H p (q - 1) (by omega) (by omega) (by omega)) h
  · exact H p q hpq hq e
end
section
/-! the relation: all but the rows is the same on both sides; the rows are two lists -/
def cq_cf (c : Nat) (wk ws fo hd : Nat → Int32) : Prop :=
  ∀ s, s < 2 → (wk s = 1 ∨ wk s = 2) ∧ (∃ z, 1 ≤ z ∧ z < 2 ^ 31 ∧ ws s = nI z ∧ (wk s = 2 → z ≤ c)) ∧ (∃ o, o < 5 ∧ fo s = nI o) ∧ (∃ h, h ≤ c ∧ hd s = nI h)
def cq_ls (ra oa rs ct : Nat → Int32) (R O : List Nat) : Prop :=
  cq_S (cq_X ra) 0 R ∧ cq_S (cq_X oa) 0 O ∧ cq_ar rs ct 2 R ∧ cq_ar rs ct 3 O ∧ R.Pairwise (· ≤ ·) ∧ (∀ x, x ∈ R → x < 268435456) ∧ (∀ x, x ∈ O → x < 268435456)
def i_Rel (k : Nat) (u : SX) (v : SY) : Prop :=
  ∃ (c m a co o : Nat) (R O : List Nat) (ph nw jn bc nc : Int32) (wk ws fo ff fc hd ts ks vs ba na ra oa rs ct : Nat → Int32),
    u = (nI c, ph, nw, jn, nI m, nI a, nI co, nI o, bc, nc, nI R.length, nI O.length, wk, ws, fo, ff, fc, hd, ts, ks, vs, ba, na, ra, oa) ∧
    v = (nI c, ph, nw, jn, nI m, nI a, nI co, nI o, wk, ws, fo, ff, fc, hd, ts, ks, vs, rs, ct) ∧
    2 ≤ c ∧ c ≤ 12 ∧ 1 ≤ m ∧ m ≤ 7 ∧ a < 3 ∧ co < 3 ∧ 1 ≤ o ∧ o ≤ 3 ∧ cq_cf c wk ws fo hd ∧ cq_ok 16 ks ∧ cq_ok 256 vs ∧ cq_ls ra oa rs ct R O
theorem cq_R {k c m a co o : Nat} {R O : List Nat} {cp ph nw jn pj ag ac op bc nc rc oc : Int32} {wk ws fo ff fc hd ts ks vs ba na ra oa : Nat → Int32} {rs ct : Nat → Int32} (e1 : cp = nI c) (e2 : pj = nI m) (e3 : ag = nI a) (e4 : ac = nI co) (e5 : op = nI o) (e6 : rc = nI R.length) (e7 : oc = nI O.length)
    (h1 : 2 ≤ c) (h2 : c ≤ 12) (h3 : 1 ≤ m) (h4 : m ≤ 7) (h5 : a < 3) (h6 : co < 3) (h7 : 1 ≤ o) (h8 : o ≤ 3) (h9 : cq_cf c wk ws fo hd) (h10 : cq_ok 16 ks) (h11 : cq_ok 256 vs) (h12 : cq_ls ra oa rs ct R O) : i_Rel k (cp, ph, nw, jn, pj, ag, ac, op, bc, nc, rc, oc, wk, ws, fo, ff, fc, hd, ts, ks, vs, ba, na, ra, oa) (cp, ph, nw, jn, pj, ag, ac, op, wk, ws, fo, ff, fc, hd, ts, ks, vs, rs, ct) := by
  subst e1 e2 e3 e4 e5 e6 e7
  exact ⟨c, m, a, co, o, R, O, ph, nw, jn, bc, nc, wk, ws, fo, ff, fc, hd, ts, ks, vs, ba, na, ra, oa, rs, ct, rfl, rfl, h1, h2, h3, h4, h5, h6, h7, h8, h9, h10, h11, h12⟩
end
section
/-! the component: small steps, base rows -/
theorem cq_pl (s i : Nat) : nI s * 12 + nI i = nI (s * 12 + i) := by
  rw [show (12 : Int32) = nI 12 from rfl, pk_mul, nI_add]
theorem x_pl {post : Int32 → Prop} {s i : Nat} (h : post (nI (s * 12 + i))) : wpX_placeOf post (nI s) (nI i) := by
  unfold wpX_placeOf
  rw [cq_pl]
  exact h
theorem x_pl0 {post : Int32 → Prop} {i : Nat} (h : post (nI i)) : wpX_placeOf post 0 (nI i) := by
  have e : 0 * 12 + i = i := by omega
  have := x_pl (post := post) (s := 0) (i := i) (by rw [e]; exact h)
  exact this
theorem x_pl1 {post : Int32 → Prop} {i : Nat} (h : post (nI (12 + i))) : wpX_placeOf post 1 (nI i) := by
  have e : 1 * 12 + i = 12 + i := by omega
  have := x_pl (post := post) (s := 1) (i := i) (by rw [e]; exact h)
  exact this
theorem x_move {post : SX → Prop} {cp ph nw jn pj ag ac op bc nc rc oc : Int32} {wk ws fo ff fc hd ts ks vs ba na ra oa : Nat → Int32} {s i j : Nat} (hi : s * 12 + i < 24) (hj : s * 12 + j < 24) (h : post (cp, ph, nw, jn, pj, ag, ac, op, bc, nc, rc, oc, wk, ws, fo, ff, fc, hd, upd ts (s * 12 + j) (ts (s * 12 + i)), upd ks (s * 12 + j) (ks (s * 12 + i)), upd vs (s * 12 + j) (vs (s * 12 + i)), ba, na, ra, oa)) : wpX_moveTuple post (cp, ph, nw, jn, pj, ag, ac, op, bc, nc, rc, oc, wk, ws, fo, ff, fc, hd, ts, ks, vs, ba, na, ra, oa) (nI s) (nI i) (nI j) := by
  have c1 : (nI (s * 12 + i)).toNatClampNeg = s * 12 + i := nI_clamp (by omega)
  have c2 : (nI (s * 12 + j)).toNatClampNeg = s * 12 + j := nI_clamp (by omega)
  have w1 : vp_in (nI (s * 12 + i)) 24 := vp_in_nI hi (by omega)
  have w2 : vp_in (nI (s * 12 + j)) 24 := vp_in_nI hj (by omega)
  unfold wpX_moveTuple
  dsimp only
  refine x_pl (x_pl ⟨w1, w2, ?_⟩)
  rw [c1, c2]
  exact nm_e ⟨w1, w2, nm_e ⟨w1, w2, nm_e h⟩⟩
theorem cq_q0 {post : Int32 → Prop} {c z : Int32} (h1 : cq_pz (nI 0) c z = true → post 1) : post 1 :=
  h1 (by unfold cq_pz; rw [if_neg (by decide), if_neg (by decide), if_neg (by decide), if_neg (by decide)])
theorem cq_q1 {post : Int32 → Prop} {c z : Int32} (h1 : cq_pz (nI 1) c z = true → post 1) (h0 : cq_pz (nI 1) c z = false → post 0) : (z = c → post 1) ∧ (¬ z = c → post 0) := by
  have e : cq_pz (nI 1) c z = decide (z = c) := by unfold cq_pz; rw [if_pos (by decide)]
  rw [e] at h1 h0
  exact ⟨fun k => h1 (decide_eq_true k), fun k => h0 (decide_eq_false k)⟩
theorem cq_q2 {post : Int32 → Prop} {c z : Int32} (h1 : cq_pz (nI 2) c z = true → post 1) (h0 : cq_pz (nI 2) c z = false → post 0) : (z = c → post 0) ∧ (¬ z = c → post 1) := by
  have e : cq_pz (nI 2) c z = decide (¬ z = c) := by unfold cq_pz; rw [if_neg (by decide), if_pos (by decide)]
  rw [e] at h1 h0
  exact ⟨fun k => h0 (decide_eq_false (fun n => n k)), fun k => h1 (decide_eq_true k)⟩
theorem cq_q3 {post : Int32 → Prop} {c z : Int32} (h1 : cq_pz (nI 3) c z = true → post 1) (h0 : cq_pz (nI 3) c z = false → post 0) : (c ≤ z → post 0) ∧ (¬ c ≤ z → post 1) := by
  have e : cq_pz (nI 3) c z = decide (z < c) := by unfold cq_pz; rw [if_neg (by decide), if_neg (by decide), if_pos (by decide)]
  rw [e] at h1 h0
  exact ⟨fun k => h0 (decide_eq_false (Int32.not_lt.mpr k)), fun k => h1 (decide_eq_true (Int32.not_le.mp k))⟩
theorem cq_q4 {post : Int32 → Prop} {c z : Int32} (h1 : cq_pz (nI 4) c z = true → post 1) (h0 : cq_pz (nI 4) c z = false → post 0) : (z ≤ c → post 0) ∧ (¬ z ≤ c → post 1) := by
  have e : cq_pz (nI 4) c z = decide (c < z) := by unfold cq_pz; rw [if_neg (by decide), if_neg (by decide), if_neg (by decide), if_pos (by decide)]
  rw [e] at h1 h0
  exact ⟨fun k => h0 (decide_eq_false (Int32.not_lt.mpr k)), fun k => h1 (decide_eq_true (Int32.not_le.mp k))⟩
theorem x_p30 {post : Int32 → Prop} {cp ph nw jn pj ag ac op bc nc rc oc : Int32} {wk ws fo ff fc hd ts ks vs ba na ra oa : Nat → Int32} {s o : Nat} {z : Int32} (hs : s < 2) (ho : o < 5) (hf : fo s = nI o) (h1 : cq_pz (fo s) (fc s) z = true → post 1) (h0 : cq_pz (fo s) (fc s) z = false → post 0) : wX_passes_30 post (nI s) z cp ph nw jn pj ag ac op bc nc rc oc wk ws fo ff fc hd ts ks vs ba na ra oa := by
  have c1 : (nI s).toNatClampNeg = s := nI_clamp (by omega)
  have w1 : vp_in (nI s) 2 := vp_in_nI hs (by omega)
  rw [hf] at h1 h0
  unfold wX_passes_30
  rw [c1, hf]
  refine ⟨w1, nm_e ⟨w1, nm_e ?_⟩⟩
  match o, ho with
  | 0, _ => exact br_t (by decide) (cq_q0 h1)
  | 1, _ => exact br_f (by decide) (br_f (by decide) (br_t (by decide) (cq_q1 h1 h0)))
  | 2, _ => exact br_f (by decide) (br_f (by decide) (br_f (by decide) (br_t (by decide) (cq_q2 h1 h0))))
  | 3, _ => exact br_f (by decide) (br_f (by decide) (br_f (by decide) (br_f (by decide) (br_t (by decide) (cq_q3 h1 h0)))))
  | 4, _ => exact br_f (by decide) (br_f (by decide) (br_f (by decide) (br_f (by decide) (br_f (by decide) (br_t (by decide) (cq_q4 h1 h0))))))
theorem x_passes {post : Int32 → Prop} {cp ph nw jn pj ag ac op bc nc rc oc : Int32} {wk ws fo ff fc hd ts ks vs ba na ra oa : Nat → Int32} {s i o p : Nat} (hp : s * 12 + i = p) (hs : s < 2) (hi : p < 24) (ho : o < 5) (hf : fo s = nI o) (h1 : cq_ps (fo s) (ff s) (fc s) (ks p) (vs p) = true → post 1) (h0 : cq_ps (fo s) (ff s) (fc s) (ks p) (vs p) = false → post 0) : wpX_passes post (cp, ph, nw, jn, pj, ag, ac, op, bc, nc, rc, oc, wk, ws, fo, ff, fc, hd, ts, ks, vs, ba, na, ra, oa) (nI s) (nI i) := by
  subst hp
  have c1 : (nI (s * 12 + i)).toNatClampNeg = s * 12 + i := nI_clamp (by omega)
  have c2 : (nI s).toNatClampNeg = s := nI_clamp (by omega)
  have w1 : vp_in (nI (s * 12 + i)) 24 := vp_in_nI hi (by omega)
  have w2 : vp_in (nI s) 2 := vp_in_nI hs (by omega)
  unfold wpX_passes
  dsimp only
  refine x_pl ⟨w2, ?_⟩
  rw [c1, c2]
  unfold cq_ps at h1 h0
  by_cases e : ff s = 0
  · rw [if_pos e] at h1 h0
    exact br_t e ⟨w1, x_p30 hs ho hf h1 h0⟩
  · rw [if_neg e] at h1 h0
    exact br_f e ⟨w1, x_p30 hs ho hf h1 h0⟩
theorem x_add {post : SX → Prop} {cp ph nw jn pj ag ac op nc rc oc : Int32} {wk ws fo ff fc hd ts ks vs ba na ra oa : Nat → Int32} {n a b c : Nat} (hn : n < 144) (ha : a < 16) (hb : b < 65536) (hc : c < 256) (h : post (cp, ph, nw, jn, pj, ag, ac, op, nI (n + 1), nc, rc, oc, wk, ws, fo, ff, fc, hd, ts, ks, vs, upd ba n (nI (cq_pk a b c)), na, ra, oa)) : wpX_addBaseRow post (cp, ph, nw, jn, pj, ag, ac, op, nI n, nc, rc, oc, wk, ws, fo, ff, fc, hd, ts, ks, vs, ba, na, ra, oa) (nI a) (nI b) (nI c) := by
  have c1 : (nI n).toNatClampNeg = n := nI_clamp (by omega)
  unfold wpX_addBaseRow wpX_packRow
  dsimp only
  rw [cq_pack ha hb hc, c1]
  exact ⟨vp_in_nI hn (by omega), nm_e (nm_r (nI_1 n) h)⟩
theorem x_joinL {post : SX → Prop} {cp ph nw jn pj ag ac op nc rc oc : Int32} {wk ws fo ff fc hd ts ks vs na ra oa : Nat → Int32} {K V : Nat → Nat} {q : Nat → Bool} {i h1 o : Nat} (hK : ∀ j, ks j = nI (K j) ∧ K j < 16) (hV : ∀ j, vs j = nI (V j) ∧ V j < 256) (hh : hd 1 = nI h1) (h12 : h1 ≤ 12) (ho : o < 5) (hf : fo 1 = nI o) (hq : ∀ j, cq_ps (fo 1) (ff 1) (fc 1) (ks (12 + j)) (vs (12 + j)) = q j) {L : List Nat} (hL : L.length + 12 ≤ 144)
    (k : ∀ ba', cq_S (cq_X ba') 0 (L ++ cq_in K V q i h1) → post (cp, ph, nw, jn, pj, ag, ac, op, nI (L ++ cq_in K V q i h1).length, nc, rc, oc, wk, ws, fo, ff, fc, hd, ts, ks, vs, ba', na, ra, oa)) :
    ∀ (d j n : Nat) (ba : Nat → Int32), j + d = h1 → d < n → cq_S (cq_X ba) 0 (L ++ cq_in K V q i j) → wX_joinWithS1_2 post (nI (K i)) (nI (V i)) n (nI j) cp ph nw jn pj ag ac op (nI (L ++ cq_in K V q i j).length) nc rc oc wk ws fo ff fc hd ts ks vs ba na ra oa := by
  intro d
  induction d with
  | zero =>
    intro j n ba hj hn hS
    obtain ⟨n, rfl⟩ : ∃ m, n = m + 1 := ⟨n - 1, by omega⟩
    have hj' : j = h1 := by omega
    subst hj'
    rw [wX_joinWithS1_2]
    exact br_t (by rw [hh]; exact nI_le (Nat.le_refl _) (by omega)) (k ba hS)
  | succ d ih =>
    intro j n ba hj hn hS
    obtain ⟨n, rfl⟩ : ∃ m, n = m + 1 := ⟨n - 1, by omega⟩
    have hlt : ¬ hd 1 ≤ nI j := by rw [hh]; exact nI_ge (by omega) (by omega)
    have c1 : (nI (12 + j)).toNatClampNeg = 12 + j := nI_clamp (by omega)
    have w1 : vp_in (nI (12 + j)) 24 := vp_in_nI (by omega) (by omega)
    have b1 := (hK (12 + j)).2
    have b2 := (hK i).2
    have b3 := (hV i).2
    have b4 := (hV (12 + j)).2
    have hl := cq_inl K V q i j
    rw [wX_joinWithS1_2]
    refine br_f hlt (x_pl1 ⟨w1, ?_⟩)
    rw [c1]
    by_cases e : K (12 + j) = K i
    · refine br_t (by rw [(hK (12 + j)).1, e]) ?_
      refine x_passes (s := 1) (p := 12 + j) (by omega) (by omega) (by omega) ho hf (fun hp => ?_) (fun hp => ?_)
      · have ein : cq_in K V q i (j + 1) = cq_in K V q i j ++ [cq_pk (K i) (V i) (V (12 + j))] := by
          rw [cq_in, if_pos ⟨e, (hq j).symm.trans hp⟩]
        have el : (L ++ cq_in K V q i (j + 1)).length = (L ++ cq_in K V q i j).length + 1 := by
          rw [ein]; simp only [List.length_append, List.length_singleton]; omega
        have H := ih (j + 1) n (upd ba (L ++ cq_in K V q i j).length (nI (cq_pk (K i) (V i) (V (12 + j))))) (by omega) (by omega) (by rw [ein, ← List.append_assoc]; exact cq_Xapp hS)
        rw [el] at H
        refine br_f (by decide) ⟨w1, ?_⟩
        rw [(hV (12 + j)).1]
        exact x_add (by rw [List.length_append]; omega) b2 (by omega) b4 (nm_r (nI_1 j) H)
      · have ein : cq_in K V q i (j + 1) = cq_in K V q i j := by
          rw [cq_in, if_neg (fun z => by have := (hq j).symm.trans hp; rw [z.2] at this; exact absurd this (by decide))]
        have H := ih (j + 1) n ba (by omega) (by omega) (by rw [ein]; exact hS)
        rw [ein] at H
        exact br_t rfl (nm_r (nI_1 j) H)
    · have ein : cq_in K V q i (j + 1) = cq_in K V q i j := by
        rw [cq_in, if_neg (fun z => e z.1)]
      have H := ih (j + 1) n ba (by omega) (by omega) (by rw [ein]; exact hS)
      rw [ein] at H
      refine br_f ?_ (nm_r (nI_1 j) H)
      rw [(hK (12 + j)).1, nI_eq (by omega) (by omega)]
      exact e
theorem x_join {post : SX → Prop} {cp ph nw jn pj ag ac op nc rc oc : Int32} {wk ws fo ff fc hd ts ks vs ba na ra oa : Nat → Int32} {K V : Nat → Nat} {q : Nat → Bool} {i h1 o : Nat} (hK : ∀ j, ks j = nI (K j) ∧ K j < 16) (hV : ∀ j, vs j = nI (V j) ∧ V j < 256) (hh : hd 1 = nI h1) (h12 : h1 ≤ 12) (ho : o < 5) (hf : fo 1 = nI o) (hq : ∀ j, cq_ps (fo 1) (ff 1) (fc 1) (ks (12 + j)) (vs (12 + j)) = q j) {L : List Nat} (hL : L.length + 12 ≤ 144) (hS : cq_S (cq_X ba) 0 L)
    (k : ∀ ba', cq_S (cq_X ba') 0 (L ++ cq_in K V q i h1) → post (cp, ph, nw, jn, pj, ag, ac, op, nI (L ++ cq_in K V q i h1).length, nc, rc, oc, wk, ws, fo, ff, fc, hd, ts, ks, vs, ba', na, ra, oa)) :
    wpX_joinWithS1 post (cp, ph, nw, jn, pj, ag, ac, op, nI L.length, nc, rc, oc, wk, ws, fo, ff, fc, hd, ts, ks, vs, ba, na, ra, oa) (nI (K i)) (nI (V i)) := by
  have e : L ++ cq_in K V q i 0 = L := by rw [cq_in, List.append_nil]
  have H := x_joinL (post := post) (cp := cp) (ph := ph) (nw := nw) (jn := jn) (pj := pj) (ag := ag) (ac := ac) (op := op) (nc := nc) (rc := rc) (oc := oc) (wk := wk) (ws := ws) (na := na) (ra := ra) (oa := oa) hK hV hh h12 ho hf hq hL k h1 0 (h1 + 1) ba (by omega) (by omega) (by rw [e]; exact hS)
  rw [e] at H
  unfold wpX_joinWithS1
  exact ⟨h1 + 1, H⟩
theorem x_colL {post : SX → Prop} {cp ph nw jn pj ag ac op nc rc oc : Int32} {wk ws fo ff fc hd ts ks vs na ra oa : Nat → Int32} {K V : Nat → Nat} {p q : Nat → Bool} {jb : Bool} {h0 h1 o o' : Nat} (hK : ∀ j, ks j = nI (K j) ∧ K j < 16) (hV : ∀ j, vs j = nI (V j) ∧ V j < 256) (hh0 : hd 0 = nI h0) (h012 : h0 ≤ 12) (hh : hd 1 = nI h1) (h12 : h1 ≤ 12) (ho : o < 5) (hf : fo 1 = nI o) (ho' : o' < 5) (hf' : fo 0 = nI o') (hp : ∀ j, cq_ps (fo 0) (ff 0) (fc 0) (ks j) (vs j) = p j) (hq : ∀ j, cq_ps (fo 1) (ff 1) (fc 1) (ks (12 + j)) (vs (12 + j)) = q j) (hj0 : jn = 0 → jb = false) (hj1 : ¬ jn = 0 → jb = true)
    (k : ∀ ba', cq_S (cq_X ba') 0 (cq_bs jb K V p q h1 h0) → post (cp, ph, nw, jn, pj, ag, ac, op, nI (cq_bs jb K V p q h1 h0).length, nc, rc, oc, wk, ws, fo, ff, fc, hd, ts, ks, vs, ba', na, ra, oa)) :
    ∀ (d i n : Nat) (ba : Nat → Int32), i + d = h0 → d < n → cq_S (cq_X ba) 0 (cq_bs jb K V p q h1 i) → wX_collectBaseRows_7 post n (nI i) cp ph nw jn pj ag ac op (nI (cq_bs jb K V p q h1 i).length) nc rc oc wk ws fo ff fc hd ts ks vs ba na ra oa := by
  intro d
  induction d with
  | zero =>
    intro i n ba hi hn hS
    obtain ⟨n, rfl⟩ : ∃ m, n = m + 1 := ⟨n - 1, by omega⟩
    have hi' : i = h0 := by omega
    subst hi'
    rw [wX_collectBaseRows_7]
    exact br_t (by rw [hh0]; exact nI_le (Nat.le_refl _) (by omega)) (k ba hS)
  | succ d ih =>
    intro i n ba hi hn hS
    obtain ⟨n, rfl⟩ : ∃ m, n = m + 1 := ⟨n - 1, by omega⟩
    have hlt : ¬ hd 0 ≤ nI i := by rw [hh0]; exact nI_ge (by omega) (by omega)
    have c1 : (nI i).toNatClampNeg = i := nI_clamp (by omega)
    have w1 : vp_in (nI i) 24 := vp_in_nI (by omega) (by omega)
    have b2 := (hK i).2
    have b3 := (hV i).2
    have hl := cq_bsl jb K V p q h12 i
    rw [wX_collectBaseRows_7]
    refine br_f hlt (x_passes (s := 0) (p := i) (by omega) (by omega) (by omega) ho' hf' (fun hpt => ?_) (fun hpf => ?_))
    · have hpi : p i = true := (hp i).symm.trans hpt
      refine br_f (by decide) (x_pl0 ?_)
      by_cases ej : jn = 0
      · have eb : cq_bs jb K V p q h1 (i + 1) = cq_bs jb K V p q h1 i ++ [cq_pk (K i) (V i) 0] := by
          rw [cq_bs, cq_rw, if_pos hpi, hj0 ej, if_neg (by decide)]
        have el : (cq_bs jb K V p q h1 (i + 1)).length = (cq_bs jb K V p q h1 i).length + 1 := by
          rw [eb, List.length_append, List.length_singleton]
        have H := ih (i + 1) n (upd ba (cq_bs jb K V p q h1 i).length (nI (cq_pk (K i) (V i) 0))) (by omega) (by omega) (by rw [eb]; exact cq_Xapp hS)
        rw [el] at H
        refine br_t ej ⟨w1, w1, ?_⟩
        rw [c1, (hK i).1, (hV i).1]
        exact x_add (c := 0) (by omega) b2 (by omega) (by omega) (nm_r (nI_1 i) H)
      · have eb : cq_bs jb K V p q h1 (i + 1) = cq_bs jb K V p q h1 i ++ cq_in K V q i h1 := by
          rw [cq_bs, cq_rw, if_pos hpi, hj1 ej, if_pos rfl]
        refine br_f ej ⟨w1, w1, ?_⟩
        rw [c1, (hK i).1, (hV i).1]
        refine x_join hK hV hh h12 ho hf hq (by omega) hS (fun ba' hS' => nm_r (nI_1 i) ?_)
        have H := ih (i + 1) n ba' (by omega) (by omega) (by rw [eb]; exact hS')
        rw [eb] at H
        exact H
    · have hpi : p i = false := (hp i).symm.trans hpf
      have eb : cq_bs jb K V p q h1 (i + 1) = cq_bs jb K V p q h1 i := by
        rw [cq_bs, cq_rw, if_neg (by rw [hpi]; decide), List.append_nil]
      have H := ih (i + 1) n ba (by omega) (by omega) (by rw [eb]; exact hS)
      rw [eb] at H
      exact br_t rfl (nm_r (nI_1 i) H)
theorem x_col {post : SX → Prop} {cp ph nw jn pj ag ac op bc nc rc oc : Int32} {wk ws fo ff fc hd ts ks vs ba na ra oa : Nat → Int32} {K V : Nat → Nat} {p q : Nat → Bool} {jb : Bool} {h0 h1 o o' : Nat} (hK : ∀ j, ks j = nI (K j) ∧ K j < 16) (hV : ∀ j, vs j = nI (V j) ∧ V j < 256) (hh0 : hd 0 = nI h0) (h012 : h0 ≤ 12) (hh : hd 1 = nI h1) (h12 : h1 ≤ 12) (ho : o < 5) (hf : fo 1 = nI o) (ho' : o' < 5) (hf' : fo 0 = nI o') (hp : ∀ j, cq_ps (fo 0) (ff 0) (fc 0) (ks j) (vs j) = p j) (hq : ∀ j, cq_ps (fo 1) (ff 1) (fc 1) (ks (12 + j)) (vs (12 + j)) = q j) (hj0 : jn = 0 → jb = false) (hj1 : ¬ jn = 0 → jb = true)
    (k : ∀ ba', cq_S (cq_X ba') 0 (cq_bs jb K V p q h1 h0) → post (cp, ph, nw, jn, pj, ag, ac, op, nI (cq_bs jb K V p q h1 h0).length, nc, rc, oc, wk, ws, fo, ff, fc, hd, ts, ks, vs, ba', na, ra, oa)) : wpX_collectBaseRows post (cp, ph, nw, jn, pj, ag, ac, op, bc, nc, rc, oc, wk, ws, fo, ff, fc, hd, ts, ks, vs, ba, na, ra, oa) := by
  have H := x_colL (post := post) (cp := cp) (ph := ph) (nw := nw) (jn := jn) (pj := pj) (ag := ag) (ac := ac) (op := op) (nc := nc) (rc := rc) (oc := oc) (wk := wk) (ws := ws) (na := na) (ra := ra) (oa := oa) hK hV hh0 h012 hh h12 ho hf ho' hf' hp hq hj0 hj1 k h0 0 (h0 + 1) ba (by omega) (by omega) (cq_nil _ _)
  unfold wpX_collectBaseRows
  exact ⟨h0 + 1, H⟩
end
section
/-! the component: the next rows -/
theorem cq_Sof {a : Nat → Int32} {L : List Nat} (h : ∀ j, j < L.length → a j = nI (L.getD j 0)) : cq_S (cq_X a) 0 L := by
  intro j hj
  show a (0 + j) = _
  rw [Nat.zero_add]
  exact h j hj
theorem x_takeL {post : SX → Prop} {cp ph nw jn pj ag ac op nc rc oc : Int32} {wk ws fo ff fc hd ts ks vs ba ra oa : Nat → Int32} {L : List Nat} (hl : L.length ≤ 144) (hB : cq_S (cq_X ba) 0 L) (k : ∀ na', cq_S (cq_X na') 0 L → post (cp, ph, nw, jn, pj, ag, ac, op, nI L.length, nI L.length, rc, oc, wk, ws, fo, ff, fc, hd, ts, ks, vs, ba, na', ra, oa)) :
    ∀ (d i n : Nat) (na : Nat → Int32), i + d = L.length → d < n → (∀ j, j < i → na j = nI (L.getD j 0)) → wX_takeBaseRows_2 post cp ph nw jn pj ag ac op (nI L.length) nc rc oc n (nI i) wk ws fo ff fc hd ts ks vs ba na ra oa := by
  intro d
  induction d with
  | zero =>
    intro i n na hi hn hS
    obtain ⟨n, rfl⟩ : ∃ m, n = m + 1 := ⟨n - 1, by omega⟩
    rw [wX_takeBaseRows_2]
    exact br_t (nI_le (by omega) (by omega)) (k na (cq_Sof (fun j hj => hS j (by omega))))
  | succ d ih =>
    intro i n na hi hn hS
    obtain ⟨n, rfl⟩ : ∃ m, n = m + 1 := ⟨n - 1, by omega⟩
    have c1 : (nI i).toNatClampNeg = i := nI_clamp (by omega)
    have w1 : vp_in (nI i) 144 := vp_in_nI (by omega) (by omega)
    rw [wX_takeBaseRows_2]
    refine br_f (nI_ge (by omega) (by omega)) ⟨w1, w1, nm_r (e' := upd na i (nI (L.getD i 0))) (by rw [c1, cq_Xg hB (by omega)]) (nm_r (nI_1 i) (ih (i + 1) n _ (by omega) (by omega) (fun j hj => ?_)))⟩
    by_cases e : j = i
    · rw [e, pk_us]
    · rw [pk_un e]; exact hS j (by omega)
theorem x_take {post : SX → Prop} {cp ph nw jn pj ag ac op nc rc oc : Int32} {wk ws fo ff fc hd ts ks vs ba na ra oa : Nat → Int32} {L : List Nat} (hl : L.length ≤ 144) (hB : cq_S (cq_X ba) 0 L) (k : ∀ na', cq_S (cq_X na') 0 L → post (cp, ph, nw, jn, pj, ag, ac, op, nI L.length, nI L.length, rc, oc, wk, ws, fo, ff, fc, hd, ts, ks, vs, ba, na', ra, oa)) : wpX_takeBaseRows post (cp, ph, nw, jn, pj, ag, ac, op, nI L.length, nc, rc, oc, wk, ws, fo, ff, fc, hd, ts, ks, vs, ba, na, ra, oa) := by
  have H := x_takeL (post := post) (nc := nc) hl hB k L.length 0 (L.length + 1) na (by omega) (by omega) (fun j hj => absurd hj (Nat.not_lt_zero j))
  unfold wpX_takeBaseRows
  exact ⟨L.length + 1, H⟩
theorem x_repL {post : SX → Prop} {cp ph nw jn pj ag ac op bc rc oc : Int32} {wk ws fo ff fc hd ts ks vs ba na oa : Nat → Int32} {L : List Nat} (hl : L.length ≤ 144) (hB : cq_S (cq_X na) 0 L) (k : ∀ ra', cq_S (cq_X ra') 0 L → post (cp, ph, nw, jn, pj, ag, ac, op, bc, nI L.length, nI L.length, oc, wk, ws, fo, ff, fc, hd, ts, ks, vs, ba, na, ra', oa)) :
    ∀ (d i n : Nat) (ra : Nat → Int32), i + d = L.length → d < n → (∀ j, j < i → ra j = nI (L.getD j 0)) → wX_replaceRelation_2 post cp ph nw jn pj ag ac op bc (nI L.length) rc oc n (nI i) wk ws fo ff fc hd ts ks vs ba na ra oa := by
  intro d
  induction d with
  | zero =>
    intro i n ra hi hn hS
    obtain ⟨n, rfl⟩ : ∃ m, n = m + 1 := ⟨n - 1, by omega⟩
    rw [wX_replaceRelation_2]
    exact br_t (nI_le (by omega) (by omega)) (k ra (cq_Sof (fun j hj => hS j (by omega))))
  | succ d ih =>
    intro i n ra hi hn hS
    obtain ⟨n, rfl⟩ : ∃ m, n = m + 1 := ⟨n - 1, by omega⟩
    have c1 : (nI i).toNatClampNeg = i := nI_clamp (by omega)
    have w1 : vp_in (nI i) 144 := vp_in_nI (by omega) (by omega)
    rw [wX_replaceRelation_2]
    refine br_f (nI_ge (by omega) (by omega)) ⟨w1, w1, nm_r (e' := upd ra i (nI (L.getD i 0))) (by rw [c1, cq_Xg hB (by omega)]) (nm_r (nI_1 i) (ih (i + 1) n _ (by omega) (by omega) (fun j hj => ?_)))⟩
    by_cases e : j = i
    · rw [e, pk_us]
    · rw [pk_un e]; exact hS j (by omega)
theorem x_rep {post : SX → Prop} {cp ph nw jn pj ag ac op bc rc oc : Int32} {wk ws fo ff fc hd ts ks vs ba na ra oa : Nat → Int32} {L : List Nat} (hl : L.length ≤ 144) (hB : cq_S (cq_X na) 0 L) (k : ∀ ra', cq_S (cq_X ra') 0 L → post (cp, ph, nw, jn, pj, ag, ac, op, bc, nI L.length, nI L.length, oc, wk, ws, fo, ff, fc, hd, ts, ks, vs, ba, na, ra', oa)) : wpX_replaceRelation post (cp, ph, nw, jn, pj, ag, ac, op, bc, nI L.length, rc, oc, wk, ws, fo, ff, fc, hd, ts, ks, vs, ba, na, ra, oa) := by
  have H := x_repL (post := post) (rc := rc) hl hB k L.length 0 (L.length + 1) ra (by omega) (by omega) (fun j hj => absurd hj (Nat.not_lt_zero j))
  unfold wpX_replaceRelation
  exact ⟨L.length + 1, H⟩
theorem x_pack {post : Int32 → Prop} {a b c : Nat} (ha : a < 16) (hb : b < 65536) (hc : c < 256) (h : post (nI (cq_pk a b c))) : wpX_packRow post (nI a) (nI b) (nI c) := by
  unfold wpX_packRow
  rw [cq_pack ha hb hc]
  exact h
theorem x_clm {post : Int32 → Prop} {p c : Nat} (hp : p < 268435456) (hc : c < 3) (h : post (nI (cq_cl c p))) : wpX_columnOf post (nI p) (nI c) := by
  unfold wpX_columnOf
  match c, hc with
  | 0, _ => exact br_t (by decide) (by rw [cq_col0 hp]; exact h)
  | 1, _ => exact br_f (by decide) (br_t (by decide) (by rw [cq_col1 hp]; exact h))
  | 2, _ => exact br_f (by decide) (br_f (by decide) (by rw [cq_col2 p]; exact h))
theorem x_gkL {post : SX → Prop} {cp ph nw jn pj op rc oc : Int32} {wk ws fo ff fc hd ts ks vs ba na ra oa : Nat → Int32} {k a co : Nat} {B : List Nat} (hl : B.length ≤ 144) (hB : cq_S (cq_X ba) 0 B) (hb : ∀ x, x ∈ B → cq_B x) (hk : k < 16) (ha : a < 3) (hco : co < 3) (hS : cq_S (cq_X na) 0 (cq_gp a co B k))
    (K : ∀ na', cq_S (cq_X na') 0 (cq_gp a co B (k + 1)) → post (cp, ph, nw, jn, pj, nI a, nI co, op, nI B.length, nI (cq_gp a co B (k + 1)).length, rc, oc, wk, ws, fo, ff, fc, hd, ts, ks, vs, ba, na', ra, oa)) :
    ∀ (d i n : Nat), i + d = B.length → d < n → wX_groupKey_7 post (nI k) cp ph nw jn pj (nI a) (nI co) op (nI B.length) (nI (cq_gp a co B k).length) rc oc wk ws fo ff fc hd ts ks vs ba na ra oa n (nI (cq_gc k (B.take i))) (nI (cq_gs co k (B.take i))) (nI i) := by
  intro d
  induction d with
  | zero =>
    intro i n hi hn
    obtain ⟨n, rfl⟩ : ∃ m, n = m + 1 := ⟨n - 1, by omega⟩
    have hi' : i = B.length := by omega
    subst hi'
    have g1 := cq_gcl k B
    have g2 := cq_gpl a co B k
    rw [List.take_length, wX_groupKey_7]
    refine br_t (nI_le (by omega) (by omega)) ?_
    by_cases e : 0 < cq_gc k B
    · have eg : cq_gp a co B (k + 1) = cq_gp a co B k ++ [cq_gr a co B k] := by rw [cq_gp, if_pos e]
      have el : (cq_gp a co B (k + 1)).length = (cq_gp a co B k).length + 1 := by rw [eg, List.length_append, List.length_singleton]
      have c1 : (nI (cq_gp a co B k).length).toNatClampNeg = (cq_gp a co B k).length := nI_clamp (by omega)
      have gb := cq_gb (ag := a) (k := k) hb hl hco
      have H := K (upd na (cq_gp a co B k).length (nI (cq_gr a co B k))) (by rw [eg]; exact cq_Xapp hS)
      rw [el] at H
      refine br_f (nI_nle e (by omega)) ?_
      have fin : ∀ z : Nat, z = (if a = 1 then cq_gc k B else cq_gs co k B) → wX_groupKey_74 post (nI k) (nI z) cp ph nw jn pj (nI a) (nI co) op (nI B.length) (nI (cq_gp a co B k).length) rc oc wk ws fo ff fc hd ts ks vs ba na ra oa := by
        intro z ez
        unfold wX_groupKey_74
        refine x_pack (c := 0) hk (by rw [ez]; exact gb) (by decide) ⟨vp_in_nI (by omega) (by omega), ?_⟩
        rw [c1]
        refine nm_r (e' := upd na (cq_gp a co B k).length (nI (cq_gr a co B k))) (by rw [ez]; rfl) (nm_r (nI_1 _) H)
      by_cases ea : a = 1
      · exact br_t (by rw [ea]; rfl) (fin _ (by rw [if_pos ea]))
      · exact br_f (by rw [show (1 : Int32) = nI 1 from rfl, nI_eq (by omega) (by omega)]; exact ea) (fin _ (by rw [if_neg ea]))
    · have eg : cq_gp a co B (k + 1) = cq_gp a co B k := by rw [cq_gp, if_neg e]
      have e0 : cq_gc k B = 0 := by omega
      have H := K na (by rw [eg]; exact hS)
      rw [eg] at H
      exact br_t (by rw [e0]; decide) H
  | succ d ih =>
    intro i n hi hn
    obtain ⟨n, rfl⟩ : ∃ m, n = m + 1 := ⟨n - 1, by omega⟩
    have c1 : (nI i).toNatClampNeg = i := nI_clamp (by omega)
    have w1 : vp_in (nI i) 144 := vp_in_nI (by omega) (by omega)
    have hx := hb _ (cq_gm (L := B) (i := i) (by omega))
    have b0 := cq_b0 hx.1
    have et := cq_tk (L := B) (i := i) (by omega)
    have H := ih (i + 1) n (by omega) (by omega)
    rw [et, cq_gca, cq_gsa] at H
    rw [wX_groupKey_7]
    refine br_f (nI_ge (by omega) (by omega)) ⟨w1, ?_⟩
    rw [c1, cq_Xg hB (by omega)]
    refine x_clm (c := 0) hx.1 (by decide) ?_
    by_cases e : cq_cl 0 (B.getD i 0) = k
    · rw [if_pos e, if_pos e] at H
      exact br_t (by rw [e]) (nm_r (nI_1 _) ⟨w1, x_clm hx.1 hco (nm_r (nI_add _ _) (nm_r (nI_1 i) H))⟩)
    · rw [if_neg e, if_neg e] at H
      exact br_f (by rw [nI_eq (by omega) (by omega)]; exact e) (nm_r (nI_1 i) H)
theorem x_gk {post : SX → Prop} {cp ph nw jn pj op rc oc : Int32} {wk ws fo ff fc hd ts ks vs ba na ra oa : Nat → Int32} {k a co : Nat} {B : List Nat} (hl : B.length ≤ 144) (hB : cq_S (cq_X ba) 0 B) (hb : ∀ x, x ∈ B → cq_B x) (hk : k < 16) (ha : a < 3) (hco : co < 3) (hS : cq_S (cq_X na) 0 (cq_gp a co B k))
    (K : ∀ na', cq_S (cq_X na') 0 (cq_gp a co B (k + 1)) → post (cp, ph, nw, jn, pj, nI a, nI co, op, nI B.length, nI (cq_gp a co B (k + 1)).length, rc, oc, wk, ws, fo, ff, fc, hd, ts, ks, vs, ba, na', ra, oa)) :
    wpX_groupKey post (cp, ph, nw, jn, pj, nI a, nI co, op, nI B.length, nI (cq_gp a co B k).length, rc, oc, wk, ws, fo, ff, fc, hd, ts, ks, vs, ba, na, ra, oa) (nI k) := by
  have H := x_gkL (post := post) hl hB hb hk ha hco hS K B.length 0 (B.length + 1) (by omega) (by omega)
  unfold wpX_groupKey
  exact ⟨B.length + 1, H⟩
theorem x_gpL {post : SX → Prop} {cp ph nw jn pj op rc oc : Int32} {wk ws fo ff fc hd ts ks vs ba ra oa : Nat → Int32} {a co : Nat} {B : List Nat} (hl : B.length ≤ 144) (hB : cq_S (cq_X ba) 0 B) (hb : ∀ x, x ∈ B → cq_B x) (ha : a < 3) (hco : co < 3)
    (K : ∀ na', cq_S (cq_X na') 0 (cq_gp a co B 16) → post (cp, ph, nw, jn, pj, nI a, nI co, op, nI B.length, nI (cq_gp a co B 16).length, rc, oc, wk, ws, fo, ff, fc, hd, ts, ks, vs, ba, na', ra, oa)) :
    ∀ (d k n : Nat) (na : Nat → Int32), k + d = 16 → d < n → cq_S (cq_X na) 0 (cq_gp a co B k) → wX_groupBaseRows_7 post n (nI k) cp ph nw jn pj (nI a) (nI co) op (nI B.length) (nI (cq_gp a co B k).length) rc oc wk ws fo ff fc hd ts ks vs ba na ra oa := by
  intro d
  induction d with
  | zero =>
    intro k n na hk hn hS
    obtain ⟨n, rfl⟩ : ∃ m, n = m + 1 := ⟨n - 1, by omega⟩
    have hk' : k = 16 := by omega
    subst hk'
    rw [wX_groupBaseRows_7]
    exact br_t (by decide) (K na hS)
  | succ d ih =>
    intro k n na hk hn hS
    obtain ⟨n, rfl⟩ : ∃ m, n = m + 1 := ⟨n - 1, by omega⟩
    rw [wX_groupBaseRows_7]
    exact br_f (nI_nlt (b := k) (a := 15) (by omega) (by omega)) (x_gk hl hB hb (by omega) ha hco hS (fun na' hS' => nm_r (nI_1 k) (ih (k + 1) n na' (by omega) (by omega) hS')))
theorem x_gp {post : SX → Prop} {cp ph nw jn pj op nc rc oc : Int32} {wk ws fo ff fc hd ts ks vs ba na ra oa : Nat → Int32} {a co : Nat} {B : List Nat} (hl : B.length ≤ 144) (hB : cq_S (cq_X ba) 0 B) (hb : ∀ x, x ∈ B → cq_B x) (ha : a < 3) (hco : co < 3)
    (K : ∀ na', cq_S (cq_X na') 0 (cq_gp a co B 16) → post (cp, ph, nw, jn, pj, nI a, nI co, op, nI B.length, nI (cq_gp a co B 16).length, rc, oc, wk, ws, fo, ff, fc, hd, ts, ks, vs, ba, na', ra, oa)) : wpX_groupBaseRows post (cp, ph, nw, jn, pj, nI a, nI co, op, nI B.length, nc, rc, oc, wk, ws, fo, ff, fc, hd, ts, ks, vs, ba, na, ra, oa) := by
  have H := x_gpL (post := post) hl hB hb ha hco K 16 0 17 na (by omega) (by omega) (cq_nil _ _)
  unfold wpX_groupBaseRows
  exact ⟨17, H⟩
theorem x_prL {post : SX → Prop} {cp ph nw jn pj ag ac op bc rc oc : Int32} {wk ws fo ff fc hd ts ks vs ba ra oa : Nat → Int32} {m : Nat} {L : List Nat} (hl : L.length ≤ 144) (k : ∀ na', cq_S (cq_X na') 0 (L.map (cq_pr m)) → post (cp, ph, nw, jn, pj, ag, ac, op, bc, nI L.length, rc, oc, wk, ws, fo, ff, fc, hd, ts, ks, vs, ba, na', ra, oa)) :
    ∀ (d i n : Nat) (na : Nat → Int32), i + d = L.length → d < n → (∀ j, j < i → na j = nI (cq_pr m (L.getD j 0))) → (∀ j, i ≤ j → j < L.length → na j = nI (L.getD j 0)) → wX_projectNextRows_59 post (nI (cq_mk m)) cp ph nw jn pj ag ac op bc (nI L.length) rc oc n (nI i) wk ws fo ff fc hd ts ks vs ba na ra oa := by
  intro d
  induction d with
  | zero =>
    intro i n na hi hn h1 h2
    obtain ⟨n, rfl⟩ : ∃ m, n = m + 1 := ⟨n - 1, by omega⟩
    rw [wX_projectNextRows_59]
    refine br_t (nI_le (by omega) (by omega)) (k na (cq_Sof (fun j hj => ?_)))
    rw [List.length_map] at hj
    rw [cq_gmap hj]
    exact h1 j (by omega)
  | succ d ih =>
    intro i n na hi hn h1 h2
    obtain ⟨n, rfl⟩ : ∃ m, n = m + 1 := ⟨n - 1, by omega⟩
    have c1 : (nI i).toNatClampNeg = i := nI_clamp (by omega)
    have w1 : vp_in (nI i) 144 := vp_in_nI (by omega) (by omega)
    rw [wX_projectNextRows_59]
    refine br_f (nI_ge (by omega) (by omega)) ⟨w1, w1, nm_r (e' := upd na i (nI (cq_pr m (L.getD i 0)))) ?_ (nm_r (nI_1 i) (ih (i + 1) n _ (by omega) (by omega) (fun j hj => ?_) (fun j hj1 hj2 => ?_)))⟩
    · rw [c1, h2 i (Nat.le_refl _) (by omega), nx_and]
      rfl
    · by_cases e : j = i
      · rw [e, pk_us]
      · rw [pk_un e]; exact h1 j (by omega)
    · rw [pk_un (by omega)]; exact h2 j (by omega) hj2
theorem cq_mk1 : (((0 : Int32) ||| 251658240) ||| 0) ||| 0 = nI (cq_mk 1) := by decide
theorem cq_mk2 : (((0 : Int32) ||| 0) ||| 16776960) ||| 0 = nI (cq_mk 2) := by decide
theorem cq_mk3 : (((0 : Int32) ||| 251658240) ||| 16776960) ||| 0 = nI (cq_mk 3) := by decide
theorem cq_mk4 : (((0 : Int32) ||| 0) ||| 0) ||| 255 = nI (cq_mk 4) := by decide
theorem cq_mk5 : (((0 : Int32) ||| 251658240) ||| 0) ||| 255 = nI (cq_mk 5) := by decide
theorem cq_mk6 : (((0 : Int32) ||| 0) ||| 16776960) ||| 255 = nI (cq_mk 6) := by decide
theorem cq_mk7 : (((0 : Int32) ||| 251658240) ||| 16776960) ||| 255 = nI (cq_mk 7) := by decide
theorem x_pr {post : SX → Prop} {cp ph nw jn ag ac op bc rc oc : Int32} {wk ws fo ff fc hd ts ks vs ba na ra oa : Nat → Int32} {m : Nat} {L : List Nat} (hm1 : 1 ≤ m) (hm7 : m ≤ 7) (hl : L.length ≤ 144) (hS : cq_S (cq_X na) 0 L) (k : ∀ na', cq_S (cq_X na') 0 (L.map (cq_pr m)) → post (cp, ph, nw, jn, nI m, ag, ac, op, bc, nI L.length, rc, oc, wk, ws, fo, ff, fc, hd, ts, ks, vs, ba, na', ra, oa)) : wpX_projectNextRows post (cp, ph, nw, jn, nI m, ag, ac, op, bc, nI L.length, rc, oc, wk, ws, fo, ff, fc, hd, ts, ks, vs, ba, na, ra, oa) := by
  have H : ∀ M : Int32, M = nI (cq_mk m) → ∃ n59 : Nat, wX_projectNextRows_59 post M cp ph nw jn (nI m) ag ac op bc (nI L.length) rc oc n59 0 wk ws fo ff fc hd ts ks vs ba na ra oa := by
    intro M e
    subst e
    exact ⟨L.length + 1, x_prL (post := post) hl k L.length 0 (L.length + 1) na (by omega) (by omega) (fun j hj => absurd hj (Nat.not_lt_zero j)) (fun j _ hj => cq_Xg hS hj)⟩
  unfold wpX_projectNextRows
  have hm : m = 1 ∨ m = 2 ∨ m = 3 ∨ m = 4 ∨ m = 5 ∨ m = 6 ∨ m = 7 := by omega
  rcases hm with rfl | rfl | rfl | rfl | rfl | rfl | rfl
  · exact br_f (by decide) (nm_e (br_t (by decide) (nm_e (br_t (by decide) (nm_e (H _ cq_mk1))))))
  · exact br_t (by decide) (nm_e (br_f (by decide) (nm_e (br_t (by decide) (nm_e (H _ cq_mk2))))))
  · exact br_f (by decide) (nm_e (br_f (by decide) (nm_e (br_t (by decide) (nm_e (H _ cq_mk3))))))
  · exact br_t (by decide) (nm_e (br_t (by decide) (nm_e (br_f (by decide) (nm_e (H _ cq_mk4))))))
  · exact br_f (by decide) (nm_e (br_t (by decide) (nm_e (br_f (by decide) (nm_e (H _ cq_mk5))))))
  · exact br_t (by decide) (nm_e (br_f (by decide) (nm_e (br_f (by decide) (nm_e (H _ cq_mk6))))))
  · exact br_f (by decide) (nm_e (br_f (by decide) (nm_e (br_f (by decide) (nm_e (H _ cq_mk7))))))
theorem x_soI {post : SX → Prop} {J : _} {cp ph nw jn pj ag ac op bc nc rc oc : Int32} {wk ws fo ff fc hd ts ks vs ba ra oa : Nat → Int32} {i w v : Nat} {f0 : Nat → Nat} (hi : i < w) (hw : w ≤ 144) (hv : v < 268435456)
    (K : ∀ (na' : Nat → Int32) (f : Nat → Nat), List.Perm (cq_L w f) (cq_L w f0) → (∀ q, q < w → f q < 268435456) → (∀ p q, p < q → q ≤ i → f p ≤ f q) → (∀ q, q < w → na' q = nI (f q)) → J (nI (i + 1)) wk ws fo ff fc hd ts ks vs ba na' ra oa) :
    ∀ (t n : Nat) (na : Nat → Int32) (f : Nat → Nat), t ≤ i → t < n → List.Perm (cq_L w f) (cq_L w f0) → (∀ q, q < w → f q < 268435456) → (∀ p q, p < q → q ≤ i → q ≠ t → f p ≤ f q) → (∀ q, q < w → q ≠ t → na q = nI (f q)) → f t = v → wX_sortNextRows_19 post J (nI i) (nI v) cp ph nw jn pj ag ac op bc nc rc oc n (nI t) wk ws fo ff fc hd ts ks vs ba na ra oa := by
  intro t
  induction t with
  | zero =>
    intro n na f ht hn hP hb hs ha hv'
    obtain ⟨n, rfl⟩ : ∃ m, n = m + 1 := ⟨n - 1, by omega⟩
    rw [wX_sortNextRows_19]
    refine br_t (by decide) ⟨vp_in_nI (by omega) (by omega), nm_r (e' := upd na 0 (nI v)) (by rw [nI_clamp (by omega)]) (nm_r (nI_1 i) (K _ f hP hb (cq_mov0 hs (by omega) (Or.inl rfl)) (fun q hq => ?_)))⟩
    by_cases e : q = 0
    · rw [e, pk_us, hv']
    · rw [pk_un e]; exact ha q hq e
  | succ t ih =>
    intro n na f ht hn hP hb hs ha hv'
    obtain ⟨n, rfl⟩ : ∃ m, n = m + 1 := ⟨n - 1, by omega⟩
    have c1 : (nI t).toNatClampNeg = t := nI_clamp (by omega)
    have c2 : (nI (t + 1)).toNatClampNeg = t + 1 := nI_clamp (by omega)
    have w1 : vp_in (nI t) 144 := vp_in_nI (by omega) (by omega)
    have w2 : vp_in (nI (t + 1)) 144 := vp_in_nI (by omega) (by omega)
    have at1 := ha t (by omega) (by omega)
    have bt := hb t (by omega)
    rw [wX_sortNextRows_19]
    refine br_f (nI_nle (by omega) (by omega)) ?_
    rw [nI_pred, c1, c2, at1]
    refine ⟨w1, ?_⟩
    by_cases e : f t ≤ v
    · refine br_t (nI_le e (by omega)) ⟨w2, nm_e (nm_r (nI_1 i) (K _ f hP hb (cq_mov0 hs (by omega) (Or.inr (by rw [hv', Nat.add_sub_cancel]; exact e))) (fun q hq => ?_)))⟩
      by_cases e2 : q = t + 1
      · rw [e2, pk_us, hv']
      · rw [pk_un e2]; exact ha q hq e2
    · refine br_f (nI_ge (by omega) (by omega)) ⟨w1, w2, nm_e (nm_r (pk_m1 t) (ih n _ (cq_sw f t (t + 1)) (by omega) (by omega) ((cq_swp (by omega) (by omega)).trans hP) (fun q hq => ?_) (cq_mov (by omega) hs (by rw [hv']; omega)) (fun q hq hqt => ?_) (by rw [cq_sw1]; exact hv')))⟩
      · unfold cq_sw
        split
        · exact hb _ (by omega)
        · split
          · exact bt
          · exact hb q hq
      · by_cases e2 : q = t + 1
        · rw [e2, pk_us, cq_sw2]
        · rw [pk_un e2, cq_sw3 hqt e2]; exact ha q hq e2
theorem x_soL {post : SX → Prop} {cp ph nw jn pj ag ac op bc rc oc : Int32} {wk ws fo ff fc hd ts ks vs ba ra oa : Nat → Int32} {w : Nat} {f0 : Nat → Nat} (hw : w ≤ 144)
    (K : ∀ na', cq_S (cq_X na') 0 (cq_so (cq_L w f0)) → post (cp, ph, nw, jn, pj, ag, ac, op, bc, nI w, rc, oc, wk, ws, fo, ff, fc, hd, ts, ks, vs, ba, na', ra, oa)) :
    ∀ (d i n : Nat) (na : Nat → Int32) (f : Nat → Nat), w ≤ i + d → i < 200 → d < n → List.Perm (cq_L w f) (cq_L w f0) → (∀ q, q < w → f q < 268435456) → (∀ p q, p < q → q < i → q < w → f p ≤ f q) → (∀ q, q < w → na q = nI (f q)) → wX_sortNextRows_2 post cp ph nw jn pj ag ac op bc (nI w) rc oc n (nI i) wk ws fo ff fc hd ts ks vs ba na ra oa := by
  have ex : ∀ (i n : Nat) (na : Nat → Int32) (f : Nat → Nat), w ≤ i → i < 200 → 0 < n → List.Perm (cq_L w f) (cq_L w f0) → (∀ p q, p < q → q < i → q < w → f p ≤ f q) → (∀ q, q < w → na q = nI (f q)) → wX_sortNextRows_2 post cp ph nw jn pj ag ac op bc (nI w) rc oc n (nI i) wk ws fo ff fc hd ts ks vs ba na ra oa := by
    intro i n na f hi hi2 hn hP hs ha
    obtain ⟨n, rfl⟩ : ∃ m, n = m + 1 := ⟨n - 1, by omega⟩
    rw [wX_sortNextRows_2]
    refine br_t (nI_le hi (by omega)) (K na ?_)
    rw [← cq_sou (cq_Ls (fun p q h1 h2 => hs p q h1 (by omega) h2)) hP]
    refine cq_Sof (fun j hj => ?_)
    rw [cq_Ll] at hj
    rw [cq_Lg hj]
    exact ha j hj
  intro d
  induction d with
  | zero =>
    intro i n na f hi hi2 hn hP hb hs ha
    exact ex i n na f (by omega) hi2 (by omega) hP hs ha
  | succ d ih =>
    intro i n na f hi hi2 hn hP hb hs ha
    by_cases e : w ≤ i
    · exact ex i n na f e hi2 (by omega) hP hs ha
    · obtain ⟨n, rfl⟩ : ∃ m, n = m + 1 := ⟨n - 1, by omega⟩
      have c1 : (nI i).toNatClampNeg = i := nI_clamp (by omega)
      rw [wX_sortNextRows_2]
      refine br_f (nI_ge (by omega) (by omega)) ⟨vp_in_nI (by omega) (by omega), nm_r (e' := nI (f i)) (by rw [c1]; exact ha i (by omega)) ⟨i + 1, ?_⟩⟩
      refine x_soI (w := w) (f0 := f0) (by omega) hw (hb i (by omega)) (fun na' f' hP' hb' hs' ha' => ih (i + 1) n na' f' (by omega) (by omega) (by omega) hP' hb' (fun p q h1 h2 h3 => hs' p q h1 (by omega)) ha') i (i + 1) na f (Nat.le_refl _) (by omega) hP hb (fun p q h1 h2 h3 => hs p q h1 (by omega) (by omega)) (fun q hq _ => ha q hq) rfl
theorem x_so {post : SX → Prop} {cp ph nw jn pj ag ac op bc rc oc : Int32} {wk ws fo ff fc hd ts ks vs ba na ra oa : Nat → Int32} {L : List Nat} (hl : L.length ≤ 144) (hb : ∀ x, x ∈ L → x < 268435456) (hS : cq_S (cq_X na) 0 L)
    (K : ∀ na', cq_S (cq_X na') 0 (cq_so L) → post (cp, ph, nw, jn, pj, ag, ac, op, bc, nI L.length, rc, oc, wk, ws, fo, ff, fc, hd, ts, ks, vs, ba, na', ra, oa)) : wpX_sortNextRows post (cp, ph, nw, jn, pj, ag, ac, op, bc, nI L.length, rc, oc, wk, ws, fo, ff, fc, hd, ts, ks, vs, ba, na, ra, oa) := by
  have e := cq_LE L
  have H := x_soL (post := post) (f0 := fun q => L.getD q 0) hl (by rw [e]; exact K) L.length 1 (L.length + 1) na (fun q => L.getD q 0) (by omega) (by omega) (by omega) (List.Perm.refl _) (fun q hq => hb _ (cq_gm hq)) (fun p q h1 h2 => by omega) (fun q hq => cq_Xg hS hq)
  unfold wpX_sortNextRows
  exact ⟨L.length + 1, H⟩
theorem x_der {post : SX → Prop} {cp ph nw jn op nc rc oc : Int32} {wk ws fo ff fc hd ts ks vs ba na ra oa : Nat → Int32} {a co m : Nat} {B : List Nat} (hl : B.length ≤ 144) (hB : cq_S (cq_X ba) 0 B) (hb : ∀ x, x ∈ B → cq_B x) (ha : a < 3) (hco : co < 3) (hm1 : 1 ≤ m) (hm7 : m ≤ 7)
    (K : ∀ na', cq_S (cq_X na') 0 (cq_nx a co m B) → post (cp, ph, nw, jn, nI m, nI a, nI co, op, nI B.length, nI (cq_nx a co m B).length, rc, oc, wk, ws, fo, ff, fc, hd, ts, ks, vs, ba, na', ra, oa)) : wpX_deriveNextRows post (cp, ph, nw, jn, nI m, nI a, nI co, op, nI B.length, nc, rc, oc, wk, ws, fo, ff, fc, hd, ts, ks, vs, ba, na, ra, oa) := by
  have l0 := cq_n0l (ag := a) (co := co) hl
  have b0 := cq_n0b (ag := a) hb hl hco
  have lx : ((cq_n0 a co B).map (cq_pr m)).length = (cq_n0 a co B).length := List.length_map _
  have fin : ∀ na' : Nat → Int32, cq_S (cq_X na') 0 (cq_n0 a co B) → wX_deriveNextRows_18 post cp ph nw jn (nI m) (nI a) (nI co) op (nI B.length) (nI (cq_n0 a co B).length) rc oc wk ws fo ff fc hd ts ks vs ba na' ra oa := by
    intro na' hS
    unfold wX_deriveNextRows_18
    refine x_pr hm1 hm7 l0 hS (fun na2 hS2 => ?_)
    dsimp only
    rw [← lx]
    refine x_so (by rw [lx]; exact l0) (fun x hx => ?_) hS2 (fun na3 hS3 => ?_)
    · obtain ⟨y, hy, e⟩ := List.mem_map.mp hx
      rw [← e]
      exact cq_prb (b0 y hy)
    · have el : ((cq_n0 a co B).map (cq_pr m)).length = (cq_nx a co m B).length := (cq_sol _).symm
      rw [el]
      exact K na3 hS3
  unfold wpX_deriveNextRows
  by_cases ea : a = 0
  · have e0 : cq_n0 a co B = B := by unfold cq_n0; rw [if_pos ea]
    rw [e0] at fin
    exact br_t (by rw [ea]; rfl) (x_take hl hB fin)
  · have e0 : cq_n0 a co B = cq_gp a co B 16 := by unfold cq_n0; rw [if_neg ea]
    rw [e0] at fin
    exact br_f (nI_ne0 (by omega) (by omega)) (x_gp hl hB hb ha hco fin)
end
section
/-! the component: the difference of two sorted lists, by a merge -/
theorem x_ei_65 {post : SX → Prop} {J : _} {cp ph nw jn pj ag ac op bc nc rc : Int32} {wk ws fo ff fc hd ts ks vs ba na ra oa : Nat → Int32} {x2 x4 x5 : Int32} {i x D : Nat} (hi : i < 144) (hD : D < 144) (hx : na i = nI x) (h : J x5 (nI (i + 1)) (nI (D + 1)) wk ws fo ff fc hd ts ks vs ba na ra (upd oa D (nI x))) : wX_emitDifference__nextRows_relationRows_65 post J x2 x4 x5 (nI i) cp ph nw jn pj ag ac op bc nc rc (nI D) wk ws fo ff fc hd ts ks vs ba na ra oa := by
  have c1 : (nI i).toNatClampNeg = i := nI_clamp (by omega)
  have c2 : (nI D).toNatClampNeg = D := nI_clamp (by omega)
  unfold wX_emitDifference__nextRows_relationRows_65
  rw [c1, c2, hx]
  exact ⟨vp_in_nI hi (by omega), vp_in_nI hD (by omega), nm_e (nm_r (nI_1 D) (nm_r (nI_1 i) h))⟩
theorem x_ei_17 {post : SX → Prop} {J : _} {cp ph nw jn pj ag ac op bc nc rc : Int32} {wk ws fo ff fc hd ts ks vs ba na ra : Nat → Int32} {F O T D : List Nat} {oa : Nat → Int32} {i : Nat} (hF : cq_S (cq_X na) 0 F) (hO : cq_S (cq_X ra) 0 O) (lF : F.length ≤ 144) (lO : O.length ≤ 144) (bF : ∀ x, x ∈ F → x < 268435456) (bO : ∀ x, x ∈ O → x < 268435456) (hi : i < F.length) (lD : D.length ≤ i) (hD : cq_S (cq_X oa) 0 D)
    (K : ∀ (r' : Nat) (oa' : Nat → Int32) (D' : List Nat), r' ≤ O.length → D'.length ≤ i + 1 → cq_S (cq_X oa') 0 D' → D' ++ cq_md (F.drop (i + 1)) (O.drop r') = T → J (nI r') (nI (i + 1)) (nI D'.length) wk ws fo ff fc hd ts ks vs ba na ra oa') :
    ∀ (e r n : Nat), r + e = O.length → e < n → D ++ cq_md (F.drop i) (O.drop r) = T → wX_emitDifference__nextRows_relationRows_17 post J (nI F.length) (nI O.length) (nI i) cp ph nw jn pj ag ac op bc nc rc (nI D.length) wk ws fo ff fc hd ts ks vs ba na ra oa n (nI r) := by
  have ci : (nI i).toNatClampNeg = i := nI_clamp (by omega)
  have wi : vp_in (nI i) 144 := vp_in_nI (by omega) (by omega)
  have hx := cq_Xg hF hi
  have bx := bF _ (cq_gm hi)
  have emit : ∀ r : Nat, r ≤ O.length → D ++ (F.getD i 0 :: cq_md (F.drop (i + 1)) (O.drop r)) = T → wX_emitDifference__nextRows_relationRows_65 post J (nI F.length) (nI O.length) (nI r) (nI i) cp ph nw jn pj ag ac op bc nc rc (nI D.length) wk ws fo ff fc hd ts ks vs ba na ra oa := by
    intro r hr hT
    refine x_ei_65 (by omega) (by omega) hx ?_
    have H := K r (upd oa D.length (nI (F.getD i 0))) (D ++ [F.getD i 0]) hr (by rw [List.length_append, List.length_singleton]; omega) (cq_Xapp hD) (by rw [List.append_assoc]; exact hT)
    rw [List.length_append, List.length_singleton] at H
    exact H
  intro e
  induction e with
  | zero =>
    intro r n hr hn hT
    obtain ⟨n, rfl⟩ : ∃ m, n = m + 1 := ⟨n - 1, by omega⟩
    have hr' : r = O.length := by omega
    subst hr'
    have le : nI O.length ≤ nI O.length := nI_le (Nat.le_refl _) (by omega)
    rw [cq_dr hi, List.drop_length, cq_mdn] at hT
    rw [wX_emitDifference__nextRows_relationRows_17]
    refine br_t le ?_
    unfold wX_emitDifference__nextRows_relationRows_41
    exact br_t le (emit _ (Nat.le_refl _) (by rw [List.drop_length]; exact hT))
  | succ e ih =>
    intro r n hr hn hT
    obtain ⟨n, rfl⟩ : ∃ m, n = m + 1 := ⟨n - 1, by omega⟩
    have lt : ¬ nI O.length ≤ nI r := nI_ge (by omega) (by omega)
    have cr : (nI r).toNatClampNeg = r := nI_clamp (by omega)
    have wr : vp_in (nI r) 144 := vp_in_nI (by omega) (by omega)
    have ho := cq_Xg hO (i := r) (by omega)
    have bo := bO _ (cq_gm (L := O) (i := r) (by omega))
    have er := cq_dr (L := O) (i := r) (by omega)
    rw [wX_emitDifference__nextRows_relationRows_17]
    refine br_f lt ⟨wr, wi, ?_⟩
    unfold wX_emitDifference__nextRows_relationRows_41
    rw [ci, cr, hx, ho]
    rw [cq_dr hi, er] at hT
    rcases Nat.lt_trichotomy (O.getD r 0) (F.getD i 0) with h | h | h
    · refine br_f (nI_ge h (by omega)) (nm_r (nI_1 r) (ih (r + 1) n (by omega) (by omega) ?_))
      rw [cq_mdl h, ← cq_dr hi] at hT
      exact hT
    · refine br_t (nI_le (by omega) (by omega)) (br_f lt ⟨wr, wi, br_t (by rw [h]) (nm_r (nI_1 r) (nm_r (nI_1 i) (K (r + 1) oa D (by omega) (by omega) hD ?_)))⟩)
      rw [h, cq_mde] at hT
      exact hT
    · refine br_t (nI_le (by omega) (by omega)) (br_f lt ⟨wr, wi, br_f (by rw [nI_eq (by omega) (by omega)]; omega) (emit r (by omega) ?_)⟩)
      rw [cq_mdg h, ← er] at hT
      exact hT
theorem x_ei_11 {post : SX → Prop} {cp ph nw jn pj ag ac op bc nc rc : Int32} {wk ws fo ff fc hd ts ks vs ba na ra : Nat → Int32} {F O T : List Nat} (hF : cq_S (cq_X na) 0 F) (hO : cq_S (cq_X ra) 0 O) (lF : F.length ≤ 144) (lO : O.length ≤ 144) (bF : ∀ x, x ∈ F → x < 268435456) (bO : ∀ x, x ∈ O → x < 268435456)
    (K : ∀ oa', cq_S (cq_X oa') 0 T → post (cp, ph, nw, jn, pj, ag, ac, op, bc, nc, rc, nI T.length, wk, ws, fo, ff, fc, hd, ts, ks, vs, ba, na, ra, oa')) :
    ∀ (d i r n : Nat) (oa : Nat → Int32) (D : List Nat), i + d = F.length → d < n → r ≤ O.length → D.length ≤ i → cq_S (cq_X oa) 0 D → D ++ cq_md (F.drop i) (O.drop r) = T → wX_emitDifference__nextRows_relationRows_11 post (nI F.length) (nI O.length) cp ph nw jn pj ag ac op bc nc rc n (nI r) (nI i) (nI D.length) wk ws fo ff fc hd ts ks vs ba na ra oa := by
  intro d
  induction d with
  | zero =>
    intro i r n oa D hi hn hr lD hD hT
    obtain ⟨n, rfl⟩ : ∃ m, n = m + 1 := ⟨n - 1, by omega⟩
    have hi' : i = F.length := by omega
    subst hi'
    rw [List.drop_length, cq_md, List.append_nil] at hT
    subst hT
    rw [wX_emitDifference__nextRows_relationRows_11]
    exact br_t (nI_le (Nat.le_refl _) (by omega)) (K oa hD)
  | succ d ih =>
    intro i r n oa D hi hn hr lD hD hT
    obtain ⟨n, rfl⟩ : ∃ m, n = m + 1 := ⟨n - 1, by omega⟩
    rw [wX_emitDifference__nextRows_relationRows_11]
    refine br_f (nI_ge (by omega) (by omega)) ⟨O.length - r + 1, ?_⟩
    exact x_ei_17 (T := T) hF hO lF lO bF bO (by omega) lD hD (fun r' oa' D' h1 h2 h3 h4 => ih (i + 1) r' n oa' D' (by omega) (by omega) h1 h2 h3 h4) (O.length - r) r (O.length - r + 1) (by omega) (by omega) hT
theorem x_ei {post : SX → Prop} {cp ph nw jn pj ag ac op bc nc rc oc : Int32} {wk ws fo ff fc hd ts ks vs ba na ra oa : Nat → Int32} {F O : List Nat} (hF : cq_S (cq_X na) 0 F) (hO : cq_S (cq_X ra) 0 O) (lF : F.length ≤ 144) (lO : O.length ≤ 144) (bF : ∀ x, x ∈ F → x < 268435456) (bO : ∀ x, x ∈ O → x < 268435456)
    (K : ∀ oa', cq_S (cq_X oa') 0 (cq_md F O) → post (cp, ph, nw, jn, pj, ag, ac, op, bc, nc, rc, nI (cq_md F O).length, wk, ws, fo, ff, fc, hd, ts, ks, vs, ba, na, ra, oa')) : wpX_emitDifference__nextRows_relationRows post (cp, ph, nw, jn, pj, ag, ac, op, bc, nc, rc, oc, wk, ws, fo, ff, fc, hd, ts, ks, vs, ba, na, ra, oa) (nI F.length) (nI O.length) := by
  have H := x_ei_11 (post := post) (T := cq_md F O) hF hO lF lO bF bO K F.length 0 0 (F.length + 1) oa [] (by omega) (by omega) (by omega) (Nat.zero_le _) (cq_nil _ _) (by rw [List.drop_zero, List.drop_zero, List.nil_append])
  unfold wpX_emitDifference__nextRows_relationRows
  exact ⟨F.length + 1, H⟩
theorem x_ed_65 {post : SX → Prop} {J : _} {cp ph nw jn pj ag ac op bc nc rc : Int32} {wk ws fo ff fc hd ts ks vs ba na ra oa : Nat → Int32} {x2 x4 x5 : Int32} {i x D : Nat} (hi : i < 144) (hD : D < 144) (hx : ra i = nI x) (h : J x5 (nI (i + 1)) (nI (D + 1)) wk ws fo ff fc hd ts ks vs ba na ra (upd oa D (nI x))) : wX_emitDifference__relationRows_nextRows_65 post J x2 x4 x5 (nI i) cp ph nw jn pj ag ac op bc nc rc (nI D) wk ws fo ff fc hd ts ks vs ba na ra oa := by
  have c1 : (nI i).toNatClampNeg = i := nI_clamp (by omega)
  have c2 : (nI D).toNatClampNeg = D := nI_clamp (by omega)
  unfold wX_emitDifference__relationRows_nextRows_65
  rw [c1, c2, hx]
  exact ⟨vp_in_nI hi (by omega), vp_in_nI hD (by omega), nm_e (nm_r (nI_1 D) (nm_r (nI_1 i) h))⟩
theorem x_ed_17 {post : SX → Prop} {J : _} {cp ph nw jn pj ag ac op bc nc rc : Int32} {wk ws fo ff fc hd ts ks vs ba na ra : Nat → Int32} {F O T D : List Nat} {oa : Nat → Int32} {i : Nat} (hF : cq_S (cq_X ra) 0 F) (hO : cq_S (cq_X na) 0 O) (lF : F.length ≤ 144) (lO : O.length ≤ 144) (bF : ∀ x, x ∈ F → x < 268435456) (bO : ∀ x, x ∈ O → x < 268435456) (hi : i < F.length) (lD : D.length ≤ i) (hD : cq_S (cq_X oa) 0 D)
    (K : ∀ (r' : Nat) (oa' : Nat → Int32) (D' : List Nat), r' ≤ O.length → D'.length ≤ i + 1 → cq_S (cq_X oa') 0 D' → D' ++ cq_md (F.drop (i + 1)) (O.drop r') = T → J (nI r') (nI (i + 1)) (nI D'.length) wk ws fo ff fc hd ts ks vs ba na ra oa') :
    ∀ (e r n : Nat), r + e = O.length → e < n → D ++ cq_md (F.drop i) (O.drop r) = T → wX_emitDifference__relationRows_nextRows_17 post J (nI F.length) (nI O.length) (nI i) cp ph nw jn pj ag ac op bc nc rc (nI D.length) wk ws fo ff fc hd ts ks vs ba na ra oa n (nI r) := by
  have ci : (nI i).toNatClampNeg = i := nI_clamp (by omega)
  have wi : vp_in (nI i) 144 := vp_in_nI (by omega) (by omega)
  have hx := cq_Xg hF hi
  have bx := bF _ (cq_gm hi)
  have emit : ∀ r : Nat, r ≤ O.length → D ++ (F.getD i 0 :: cq_md (F.drop (i + 1)) (O.drop r)) = T → wX_emitDifference__relationRows_nextRows_65 post J (nI F.length) (nI O.length) (nI r) (nI i) cp ph nw jn pj ag ac op bc nc rc (nI D.length) wk ws fo ff fc hd ts ks vs ba na ra oa := by
    intro r hr hT
    refine x_ed_65 (by omega) (by omega) hx ?_
    have H := K r (upd oa D.length (nI (F.getD i 0))) (D ++ [F.getD i 0]) hr (by rw [List.length_append, List.length_singleton]; omega) (cq_Xapp hD) (by rw [List.append_assoc]; exact hT)
    rw [List.length_append, List.length_singleton] at H
    exact H
  intro e
  induction e with
  | zero =>
    intro r n hr hn hT
    obtain ⟨n, rfl⟩ : ∃ m, n = m + 1 := ⟨n - 1, by omega⟩
    have hr' : r = O.length := by omega
    subst hr'
    have le : nI O.length ≤ nI O.length := nI_le (Nat.le_refl _) (by omega)
    rw [cq_dr hi, List.drop_length, cq_mdn] at hT
    rw [wX_emitDifference__relationRows_nextRows_17]
    refine br_t le ?_
    unfold wX_emitDifference__relationRows_nextRows_41
    exact br_t le (emit _ (Nat.le_refl _) (by rw [List.drop_length]; exact hT))
  | succ e ih =>
    intro r n hr hn hT
    obtain ⟨n, rfl⟩ : ∃ m, n = m + 1 := ⟨n - 1, by omega⟩
    have lt : ¬ nI O.length ≤ nI r := nI_ge (by omega) (by omega)
    have cr : (nI r).toNatClampNeg = r := nI_clamp (by omega)
    have wr : vp_in (nI r) 144 := vp_in_nI (by omega) (by omega)
    have ho := cq_Xg hO (i := r) (by omega)
    have bo := bO _ (cq_gm (L := O) (i := r) (by omega))
    have er := cq_dr (L := O) (i := r) (by omega)
    rw [wX_emitDifference__relationRows_nextRows_17]
    refine br_f lt ⟨wr, wi, ?_⟩
    unfold wX_emitDifference__relationRows_nextRows_41
    rw [ci, cr, hx, ho]
    rw [cq_dr hi, er] at hT
    rcases Nat.lt_trichotomy (O.getD r 0) (F.getD i 0) with h | h | h
    · refine br_f (nI_ge h (by omega)) (nm_r (nI_1 r) (ih (r + 1) n (by omega) (by omega) ?_))
      rw [cq_mdl h, ← cq_dr hi] at hT
      exact hT
    · refine br_t (nI_le (by omega) (by omega)) (br_f lt ⟨wr, wi, br_t (by rw [h]) (nm_r (nI_1 r) (nm_r (nI_1 i) (K (r + 1) oa D (by omega) (by omega) hD ?_)))⟩)
      rw [h, cq_mde] at hT
      exact hT
    · refine br_t (nI_le (by omega) (by omega)) (br_f lt ⟨wr, wi, br_f (by rw [nI_eq (by omega) (by omega)]; omega) (emit r (by omega) ?_)⟩)
      rw [cq_mdg h, ← er] at hT
      exact hT
theorem x_ed_11 {post : SX → Prop} {cp ph nw jn pj ag ac op bc nc rc : Int32} {wk ws fo ff fc hd ts ks vs ba na ra : Nat → Int32} {F O T : List Nat} (hF : cq_S (cq_X ra) 0 F) (hO : cq_S (cq_X na) 0 O) (lF : F.length ≤ 144) (lO : O.length ≤ 144) (bF : ∀ x, x ∈ F → x < 268435456) (bO : ∀ x, x ∈ O → x < 268435456)
    (K : ∀ oa', cq_S (cq_X oa') 0 T → post (cp, ph, nw, jn, pj, ag, ac, op, bc, nc, rc, nI T.length, wk, ws, fo, ff, fc, hd, ts, ks, vs, ba, na, ra, oa')) :
    ∀ (d i r n : Nat) (oa : Nat → Int32) (D : List Nat), i + d = F.length → d < n → r ≤ O.length → D.length ≤ i → cq_S (cq_X oa) 0 D → D ++ cq_md (F.drop i) (O.drop r) = T → wX_emitDifference__relationRows_nextRows_11 post (nI F.length) (nI O.length) cp ph nw jn pj ag ac op bc nc rc n (nI r) (nI i) (nI D.length) wk ws fo ff fc hd ts ks vs ba na ra oa := by
  intro d
  induction d with
  | zero =>
    intro i r n oa D hi hn hr lD hD hT
    obtain ⟨n, rfl⟩ : ∃ m, n = m + 1 := ⟨n - 1, by omega⟩
    have hi' : i = F.length := by omega
    subst hi'
    rw [List.drop_length, cq_md, List.append_nil] at hT
    subst hT
    rw [wX_emitDifference__relationRows_nextRows_11]
    exact br_t (nI_le (Nat.le_refl _) (by omega)) (K oa hD)
  | succ d ih =>
    intro i r n oa D hi hn hr lD hD hT
    obtain ⟨n, rfl⟩ : ∃ m, n = m + 1 := ⟨n - 1, by omega⟩
    rw [wX_emitDifference__relationRows_nextRows_11]
    refine br_f (nI_ge (by omega) (by omega)) ⟨O.length - r + 1, ?_⟩
    exact x_ed_17 (T := T) hF hO lF lO bF bO (by omega) lD hD (fun r' oa' D' h1 h2 h3 h4 => ih (i + 1) r' n oa' D' (by omega) (by omega) h1 h2 h3 h4) (O.length - r) r (O.length - r + 1) (by omega) (by omega) hT
theorem x_ed {post : SX → Prop} {cp ph nw jn pj ag ac op bc nc rc oc : Int32} {wk ws fo ff fc hd ts ks vs ba na ra oa : Nat → Int32} {F O : List Nat} (hF : cq_S (cq_X ra) 0 F) (hO : cq_S (cq_X na) 0 O) (lF : F.length ≤ 144) (lO : O.length ≤ 144) (bF : ∀ x, x ∈ F → x < 268435456) (bO : ∀ x, x ∈ O → x < 268435456)
    (K : ∀ oa', cq_S (cq_X oa') 0 (cq_md F O) → post (cp, ph, nw, jn, pj, ag, ac, op, bc, nc, rc, nI (cq_md F O).length, wk, ws, fo, ff, fc, hd, ts, ks, vs, ba, na, ra, oa')) : wpX_emitDifference__relationRows_nextRows post (cp, ph, nw, jn, pj, ag, ac, op, bc, nc, rc, oc, wk, ws, fo, ff, fc, hd, ts, ks, vs, ba, na, ra, oa) (nI F.length) (nI O.length) := by
  have H := x_ed_11 (post := post) (T := cq_md F O) hF hO lF lO bF bO K F.length 0 0 (F.length + 1) oa [] (by omega) (by omega) (by omega) (Nat.zero_le _) (cq_nil _ _) (by rw [List.drop_zero, List.drop_zero, List.nil_append])
  unfold wpX_emitDifference__relationRows_nextRows
  exact ⟨F.length + 1, H⟩
end
section
/-! the component: what is emitted, what expires, the step -/
theorem x_emit {post : SX → Prop} {cp ph nw jn pj ag ac bc oc : Int32} {wk ws fo ff fc hd ts ks vs ba na ra oa : Nat → Int32} {o : Nat} {S R : List Nat} (ho1 : 1 ≤ o) (ho3 : o ≤ 3) (hS : cq_S (cq_X na) 0 S) (hR : cq_S (cq_X ra) 0 R) (lS : S.length ≤ 144) (lR : R.length ≤ 144) (bS : ∀ x, x ∈ S → x < 268435456) (bR : ∀ x, x ∈ R → x < 268435456)
    (K : ∀ oa', cq_S (cq_X oa') 0 (cq_ou o S R) → post (cp, ph, nw, jn, pj, ag, ac, nI o, bc, nI S.length, nI R.length, nI (cq_ou o S R).length, wk, ws, fo, ff, fc, hd, ts, ks, vs, ba, na, ra, oa')) : wpX_emitRows post (cp, ph, nw, jn, pj, ag, ac, nI o, bc, nI S.length, nI R.length, oc, wk, ws, fo, ff, fc, hd, ts, ks, vs, ba, na, ra, oa) := by
  unfold wpX_emitRows
  have hm : o = 1 ∨ o = 2 ∨ o = 3 := by omega
  rcases hm with rfl | rfl | rfl
  · have e : cq_ou 1 S R = cq_md S R := by unfold cq_ou; rw [if_pos rfl]
    rw [e] at K
    exact br_t (by decide) (x_ei hS hR lS lR bS bR K)
  · have e : cq_ou 2 S R = cq_md R S := by unfold cq_ou; rw [if_neg (by decide), if_pos rfl]
    rw [e] at K
    exact br_f (by decide) (br_t (by decide) (x_ed hR hS lR lS bR bS K))
  · have e : cq_ou 3 S R = cq_md S [] := by unfold cq_ou; rw [if_neg (by decide), if_neg (by decide), cq_md0]
    rw [e] at K
    exact br_f (by decide) (br_f (by decide) (x_ei (O := []) hS (cq_nil _ _) lS (by decide) bS (fun x hx => absurd hx (List.not_mem_nil)) K))
theorem x_exL {post : SX → Prop} {cp ph nw jn pj ag ac op bc nc rc oc : Int32} {wk ws fo ff fc hd ts ks vs ba na ra oa : Nat → Int32} {s h : Nat} {lim : Int32} (hs : s < 2) (hh : hd s = nI h) (h12 : h ≤ 12)
    (K : post (cp, ph, nw, jn, pj, ag, ac, op, bc, nc, rc, oc, wk, ws, fo, ff, fc, upd hd s (nI (cq_ex (s * 12) lim ts ks vs h).2.2.2), (cq_ex (s * 12) lim ts ks vs h).1, (cq_ex (s * 12) lim ts ks vs h).2.1, (cq_ex (s * 12) lim ts ks vs h).2.2.1, ba, na, ra, oa)) :
    ∀ (d i n : Nat), i + d = h → d < n → wX_expire_28 post (nI s) lim n (nI (cq_ex (s * 12) lim ts ks vs i).2.2.2) (nI i) cp ph nw jn pj ag ac op bc nc rc oc wk ws fo ff fc hd ((cq_ex (s * 12) lim ts ks vs i).1) ((cq_ex (s * 12) lim ts ks vs i).2.1) ((cq_ex (s * 12) lim ts ks vs i).2.2.1) ba na ra oa := by
  have c1 : (nI s).toNatClampNeg = s := nI_clamp (by omega)
  have w1 : vp_in (nI s) 2 := vp_in_nI hs (by omega)
  intro d
  induction d with
  | zero =>
    intro i n hi hn
    obtain ⟨n, rfl⟩ : ∃ m, n = m + 1 := ⟨n - 1, by omega⟩
    have hi' : i = h := by omega
    subst hi'
    rw [wX_expire_28]
    refine ⟨w1, ?_⟩
    rw [c1, hh]
    exact br_t (nI_le (Nat.le_refl _) (by omega)) ⟨w1, nm_e K⟩
  | succ d ih =>
    intro i n hi hn
    obtain ⟨n, rfl⟩ : ∃ m, n = m + 1 := ⟨n - 1, by omega⟩
    have kl := cq_exl (s * 12) lim ts ks vs i
    have c2 : (nI (s * 12 + i)).toNatClampNeg = s * 12 + i := nI_clamp (by omega)
    have w2 : vp_in (nI (s * 12 + i)) 24 := vp_in_nI (by omega) (by omega)
    have H := ih (i + 1) n (by omega) (by omega)
    rw [wX_expire_28]
    refine ⟨w1, ?_⟩
    rw [c1, hh]
    refine br_f (nI_ge (by omega) (by omega)) (x_pl ⟨w2, ?_⟩)
    rw [c2]
    by_cases e : lim < (cq_ex (s * 12) lim ts ks vs i).1 (s * 12 + i)
    · rw [cq_ext e] at H
      exact br_f (Int32.not_le.mpr e) (x_move (by omega) (by omega) (nm_r (nI_1 _) (nm_r (nI_1 i) H)))
    · rw [cq_exf e] at H
      exact br_t (Int32.not_lt.mp e) (nm_r (nI_1 i) H)
def cq_xp (s : Nat) (wk ws : Nat → Int32) (nw : Int32) (q : (Nat → Int32) × (Nat → Int32) × (Nat → Int32) × (Nat → Int32)) : (Nat → Int32) × (Nat → Int32) × (Nat → Int32) × (Nat → Int32) :=
  if wk s = 1 then
    (upd q.1 s (nI (cq_ex (s * 12) (nw - ws s) q.2.1 q.2.2.1 q.2.2.2 (q.1 s).toNatClampNeg).2.2.2), (cq_ex (s * 12) (nw - ws s) q.2.1 q.2.2.1 q.2.2.2 (q.1 s).toNatClampNeg).1, (cq_ex (s * 12) (nw - ws s) q.2.1 q.2.2.1 q.2.2.2 (q.1 s).toNatClampNeg).2.1, (cq_ex (s * 12) (nw - ws s) q.2.1 q.2.2.1 q.2.2.2 (q.1 s).toNatClampNeg).2.2.1)
  else q
theorem x_exp {post : SX → Prop} {cp ph nw jn pj ag ac op bc nc rc oc : Int32} {wk ws fo ff fc hd ts ks vs ba na ra oa : Nat → Int32} {s h : Nat} (hs : s < 2) (hh : hd s = nI h) (h12 : h ≤ 12)
    (K : post (cp, ph, nw, jn, pj, ag, ac, op, bc, nc, rc, oc, wk, ws, fo, ff, fc, (cq_xp s wk ws nw (hd, ts, ks, vs)).1, (cq_xp s wk ws nw (hd, ts, ks, vs)).2.1, (cq_xp s wk ws nw (hd, ts, ks, vs)).2.2.1, (cq_xp s wk ws nw (hd, ts, ks, vs)).2.2.2, ba, na, ra, oa)) : wpX_expire post (cp, ph, nw, jn, pj, ag, ac, op, bc, nc, rc, oc, wk, ws, fo, ff, fc, hd, ts, ks, vs, ba, na, ra, oa) (nI s) := by
  have c1 : (nI s).toNatClampNeg = s := nI_clamp (by omega)
  have w1 : vp_in (nI s) 2 := vp_in_nI hs (by omega)
  have ch : (hd s).toNatClampNeg = h := by rw [hh]; exact nI_clamp (by omega)
  unfold wpX_expire
  dsimp only
  rw [c1]
  by_cases e : wk s = 1
  · unfold cq_xp at K
    rw [if_pos e] at K
    dsimp only at K
    rw [ch] at K
    refine ⟨w1, br_t e ⟨w1, nm_e ⟨h + 1, ?_⟩⟩⟩
    exact x_exL hs hh h12 K h 0 (h + 1) (by omega) (by omega)
  · unfold cq_xp at K
    rw [if_neg e] at K
    exact ⟨w1, br_f e K⟩
theorem x_step {post : Int32 → SX → Prop} {cp ph nw jn bc nc oc : Int32} {wk ws fo ff fc hd ts ks vs ba na ra oa : Nat → Int32} {K V : Nat → Nat} {p q : Nat → Bool} {jb : Bool} {h0 h1 o o' a co m t : Nat} {R : List Nat} (hph : ph = 1) (hK : ∀ j, ks j = nI (K j) ∧ K j < 16) (hV : ∀ j, vs j = nI (V j) ∧ V j < 256) (hh0 : hd 0 = nI h0) (h012 : h0 ≤ 12) (hh : hd 1 = nI h1) (h12 : h1 ≤ 12) (ho : o < 5) (hf : fo 1 = nI o) (ho' : o' < 5) (hf' : fo 0 = nI o') (hp : ∀ j, cq_ps (fo 0) (ff 0) (fc 0) (ks j) (vs j) = p j) (hq : ∀ j, cq_ps (fo 1) (ff 1) (fc 1) (ks (12 + j)) (vs (12 + j)) = q j) (hj0 : jn = 0 → jb = false) (hj1 : ¬ jn = 0 → jb = true)
    (ha : a < 3) (hco : co < 3) (hm1 : 1 ≤ m) (hm7 : m ≤ 7) (ht1 : 1 ≤ t) (ht3 : t ≤ 3) (hR : cq_S (cq_X ra) 0 R) (lR : R.length ≤ 144) (bR : ∀ x, x ∈ R → x < 268435456)
    (k : ∀ (S O : List Nat) (Q : (Nat → Int32) × (Nat → Int32) × (Nat → Int32) × (Nat → Int32)) (bc nc : Int32) (ba na ra oa : Nat → Int32), S = cq_nx a co m (cq_bs jb K V p q h1 h0) → O = cq_ou t S R → Q = cq_xp 1 wk ws (nw + 1) (cq_xp 0 wk ws (nw + 1) (hd, ts, ks, vs)) → cq_S (cq_X ra) 0 S → cq_S (cq_X oa) 0 O → post (nI O.length) (cp, ph, nw + 1, jn, nI m, nI a, nI co, nI t, bc, nc, nI S.length, nI O.length, wk, ws, fo, ff, fc, Q.1, Q.2.1, Q.2.2.1, Q.2.2.2, ba, na, ra, oa)) :
    wpX_step post (cp, ph, nw, jn, nI m, nI a, nI co, nI t, bc, nc, nI R.length, oc, wk, ws, fo, ff, fc, hd, ts, ks, vs, ba, na, ra, oa) := by
  have lB := cq_bsl jb K V p q h12 h0
  have bB := cq_bsB (fun i => (hK i).2) (fun i => (hV i).2) jb p q h1 h0
  have lS := cq_nxl (ag := a) (co := co) (m := m) (B := cq_bs jb K V p q h1 h0) (by omega)
  have bS := cq_nxb (ag := a) (m := m) bB (by omega) hco
  unfold wpX_step
  refine br_t hph ?_
  refine x_col hK hV hh0 h012 hh h12 ho hf ho' hf' hp hq hj0 hj1 (fun ba' hba => ?_)
  refine x_der (by omega) hba bB ha hco hm1 hm7 (fun na' hna => ?_)
  refine x_emit ht1 ht3 hna hR lS lR bS bR (fun oa' hoa => ?_)
  refine x_rep lS hna (fun ra' hra => ?_)
  refine nm_e ?_
  refine x_exp (s := 0) (h := h0) (by decide) hh0 h012 ?_
  have hx : ∃ h', h' ≤ 12 ∧ (cq_xp 0 wk ws (nw + 1) (hd, ts, ks, vs)).1 1 = nI h' := by
    unfold cq_xp
    split
    · exact ⟨h1, h12, by dsimp only; rw [pk_un (by decide)]; exact hh⟩
    · exact ⟨h1, h12, hh⟩
  obtain ⟨h', h12', hh'⟩ := hx
  refine x_exp (s := 1) (h := h') (by decide) hh' h12' ?_
  exact k _ _ _ _ _ _ _ _ _ rfl rfl rfl hra hoa
end
section
/-! the reference: cells of areas, put, filters -/
theorem cq_atE (a i c : Nat) : ((nI a * 144) + nI i) * 3 + nI c = nI ((a * 144 + i) * 3 + c) := by
  rw [show (144 : Int32) = nI 144 from rfl, show (3 : Int32) = nI 3 from rfl, pk_mul, nI_add, pk_mul, nI_add]
theorem y_at {post : Int32 → Prop} {cp ph nw jn pj ag ac op : Int32} {wk ws fo ff fc hd ts ks vs rs ct : Nat → Int32} {a i c : Nat} (h : post (nI ((a * 144 + i) * 3 + c))) : wpY_at post (cp, ph, nw, jn, pj, ag, ac, op, wk, ws, fo, ff, fc, hd, ts, ks, vs, rs, ct) (nI a) (nI i) (nI c) := by
  unfold wpY_at
  dsimp only
  rw [cq_atE]
  exact h
theorem y_put {post : SY → Prop} {cp ph nw jn pj ag ac op : Int32} {wk ws fo ff fc hd ts ks vs rs ct : Nat → Int32} {t x : Nat} {L : List Nat} {c0 c1 c2 : Int32} (ht : t < 4) (h : cq_ar rs ct t L) (hl : L.length < 144) (e0 : c0 = nI (cq_cl 0 x)) (e1 : c1 = nI (cq_cl 1 x)) (e2 : c2 = nI (cq_cl 2 x))
    (K : ∀ rs' ct', cq_ar rs' ct' t (L ++ [x]) → cq_pv t rs ct rs' ct' → post (cp, ph, nw, jn, pj, ag, ac, op, wk, ws, fo, ff, fc, hd, ts, ks, vs, rs', ct')) : wpY_put post (cp, ph, nw, jn, pj, ag, ac, op, wk, ws, fo, ff, fc, hd, ts, ks, vs, rs, ct) (nI t) c0 c1 c2 := by
  have ct1 : (nI t).toNatClampNeg = t := nI_clamp (by omega)
  have w1 : vp_in (nI t) 4 := vp_in_nI ht (by omega)
  unfold wpY_put
  dsimp only
  refine ⟨w1, ?_⟩
  rw [ct1]
  refine nm_r h.2.1 (br_t (nI_lt (b := 144) hl (by decide)) ?_)
  refine y_at (c := 0) ⟨vp_in_nI (by omega) (by omega), nm_r (e' := upd rs ((t * 144 + L.length) * 3) (nI (cq_cl 0 x))) (by rw [nI_clamp (by omega), e0, Nat.add_zero]) ?_⟩
  refine y_at (c := 1) ⟨vp_in_nI (by omega) (by omega), nm_r (e' := upd (upd rs ((t * 144 + L.length) * 3) (nI (cq_cl 0 x))) ((t * 144 + L.length) * 3 + 1) (nI (cq_cl 1 x))) (by rw [nI_clamp (by omega), e1]) ?_⟩
  refine y_at (c := 2) ⟨vp_in_nI (by omega) (by omega), nm_r (e' := cq_y3 rs (t * 144 + L.length) x) (by rw [nI_clamp (by omega), e2]; rfl) ?_⟩
  exact ⟨w1, nm_r (by rw [nI_1]) (K _ _ (cq_arP h hl) (cq_pvP hl))⟩
theorem y_p47 {post : Int32 → Prop} {cp ph nw jn pj ag ac op : Int32} {wk ws fo ff fc hd ts ks vs rs ct : Nat → Int32} {s o : Nat} {z : Int32} (hs : s < 2) (ho1 : 1 ≤ o) (ho : o < 5) (h1 : cq_pz (nI o) (fc s) z = true → post 1) (h0 : cq_pz (nI o) (fc s) z = false → post 0) : wY_pass_47 post (nI s) (nI o) z cp ph nw jn pj ag ac op wk ws fo ff fc hd ts ks vs rs ct := by
  have c1 : (nI s).toNatClampNeg = s := nI_clamp (by omega)
  have w1 : vp_in (nI s) 2 := vp_in_nI hs (by omega)
  unfold wY_pass_47
  rw [c1]
  refine ⟨w1, nm_e ?_⟩
  have hm : o = 1 ∨ o = 2 ∨ o = 3 ∨ o = 4 := by omega
  rcases hm with rfl | rfl | rfl | rfl
  · exact br_t (by decide) (cq_q1 h1 h0)
  · exact br_f (by decide) (br_t (by decide) (cq_q2 h1 h0))
  · exact br_f (by decide) (br_f (by decide) (br_t (by decide) (cq_q3 h1 h0)))
  · exact br_f (by decide) (br_f (by decide) (br_f (by decide) (cq_q4 h1 h0)))
theorem y_pass {post : Int32 → Prop} {cp ph nw jn pj ag ac op : Int32} {wk ws fo ff fc hd ts ks vs rs ct : Nat → Int32} {s i o p : Nat} (hp : s * 12 + i = p) (hs : s < 2) (hi : p < 24) (ho : o < 5) (hf : fo s = nI o) (h1 : cq_ps (fo s) (ff s) (fc s) (ks p) (vs p) = true → post 1) (h0 : cq_ps (fo s) (ff s) (fc s) (ks p) (vs p) = false → post 0) : wpY_pass post (cp, ph, nw, jn, pj, ag, ac, op, wk, ws, fo, ff, fc, hd, ts, ks, vs, rs, ct) (nI s) (nI i) := by
  subst hp
  have c1 : (nI (s * 12 + i)).toNatClampNeg = s * 12 + i := nI_clamp (by omega)
  have c2 : (nI s).toNatClampNeg = s := nI_clamp (by omega)
  have w1 : vp_in (nI (s * 12 + i)) 24 := vp_in_nI hi (by omega)
  have w2 : vp_in (nI s) 2 := vp_in_nI hs (by omega)
  unfold cq_ps at h1 h0
  unfold wpY_pass
  dsimp only
  refine ⟨w2, ?_⟩
  rw [c2, cq_pl, c1]
  rw [hf] at h1 h0
  refine nm_r hf ?_
  by_cases e0 : o = 0
  · subst e0
    exact br_t (by decide) (cq_q0 h1)
  · refine br_f (nI_ne0 (by omega) (by omega)) ⟨w2, ?_⟩
    by_cases e : ff s = 0
    · rw [if_pos e] at h1 h0
      exact br_t e ⟨w1, y_p47 hs (by omega) ho h1 h0⟩
    · rw [if_neg e] at h1 h0
      exact br_f e ⟨w1, y_p47 hs (by omega) ho h1 h0⟩
/-! the order of rows, the sort -/
theorem y_less1 {post : Int32 → Prop} {cp ph nw jn pj ag ac op : Int32} {wk ws fo ff fc hd ts ks vs rs ct : Nat → Int32} {t i j p q c n : Nat} (ht : t < 4) (hi : i < 144) (hj : j < 144) (hp : cq_Y rs (t * 144 + i) p) (hq : cq_Y rs (t * 144 + j) q) (bp : p < 268435456) (bq : q < 268435456) (hc : c < 3) (h1 : cq_cl c p < cq_cl c q → post 1) (h0 : cq_cl c q < cq_cl c p → post 0) (h : cq_cl c p = cq_cl c q → wY_less_3 post (nI t) (nI i) (nI j) cp ph nw jn pj ag ac op wk ws fo ff fc hd ts ks vs rs ct n (nI (c + 1))) : wY_less_3 post (nI t) (nI i) (nI j) cp ph nw jn pj ag ac op wk ws fo ff fc hd ts ks vs rs ct (n + 1) (nI c) := by
  have b1 := cq_bb bp hc
  have b2 := cq_bb bq hc
  rw [wY_less_3]
  refine br_f (nI_ge (b := 3) hc (by decide)) ?_
  refine y_at ⟨vp_in_nI (by omega) (by omega), nm_r (e' := nI (cq_cl c p)) (by rw [nI_clamp (by omega)]; exact cq_Yc hp hc) ?_⟩
  refine y_at ⟨vp_in_nI (by omega) (by omega), nm_r (e' := nI (cq_cl c q)) (by rw [nI_clamp (by omega)]; exact cq_Yc hq hc) ?_⟩
  rcases Nat.lt_trichotomy (cq_cl c p) (cq_cl c q) with e | e | e
  · exact br_f (by rw [nI_eq (by omega) (by omega)]; omega) (br_f (nI_ge e (by omega)) (h1 e))
  · exact br_t (by rw [e]) (nm_r (nI_1 c) (h e))
  · exact br_f (by rw [nI_eq (by omega) (by omega)]; omega) (br_t (nI_le (by omega) (by omega)) (h0 e))
theorem y_less {post : Int32 → Prop} {cp ph nw jn pj ag ac op : Int32} {wk ws fo ff fc hd ts ks vs rs ct : Nat → Int32} {t i j p q : Nat} (ht : t < 4) (hi : i < 144) (hj : j < 144) (hp : cq_Y rs (t * 144 + i) p) (hq : cq_Y rs (t * 144 + j) q) (bp : p < 268435456) (bq : q < 268435456) (h1 : p < q → post 1) (h0 : ¬ p < q → post 0) : wpY_less post (cp, ph, nw, jn, pj, ag, ac, op, wk, ws, fo, ff, fc, hd, ts, ks, vs, rs, ct) (nI t) (nI i) (nI j) := by
  unfold wpY_less
  refine ⟨4, y_less1 (c := 0) ht hi hj hp hq bp bq (by decide) (fun e => h1 (cq_l0 e)) (fun e => h0 (by have := cq_l0 e; omega)) (fun e0 => ?_)⟩
  refine y_less1 (c := 1) ht hi hj hp hq bp bq (by decide) (fun e => h1 (cq_l1 e0 e)) (fun e => h0 (by have := cq_l1 e0.symm e; omega)) (fun e1 => ?_)
  refine y_less1 (c := 2) ht hi hj hp hq bp bq (by decide) (fun e => h1 (cq_l2 e0 e1 e)) (fun e => h0 (by have := cq_l2 e0.symm e1.symm e; omega)) (fun e2 => ?_)
  rw [wY_less_3]
  exact br_t (by decide) (h0 (by have := cq_eq e0 e1 e2; omega))
theorem y_sw1 {post : SY → Prop} {J : _} {cp ph nw jn pj ag ac op : Int32} {wk ws fo ff fc hd ts ks vs rs ct : Nat → Int32} {x2 : Int32} {t i m c n : Nat} (ht : t < 4) (hi : i < 144) (hm : m < 144) (hne : m ≠ i) (hc : c < 3) (h : wY_sort_53 post J (nI t) x2 (nI i) (nI m) cp ph nw jn pj ag ac op n (nI (c + 1)) wk ws fo ff fc hd ts ks vs (cq_s1 rs (t * 144 + i) (t * 144 + m) c) ct) : wY_sort_53 post J (nI t) x2 (nI i) (nI m) cp ph nw jn pj ag ac op (n + 1) (nI c) wk ws fo ff fc hd ts ks vs rs ct := by
  have k1 : (nI ((t * 144 + i) * 3 + c)).toNatClampNeg = (t * 144 + i) * 3 + c := nI_clamp (by omega)
  have k2 : (nI ((t * 144 + m) * 3 + c)).toNatClampNeg = (t * 144 + m) * 3 + c := nI_clamp (by omega)
  have w1 : vp_in (nI ((t * 144 + i) * 3 + c)) 1728 := vp_in_nI (by omega) (by omega)
  have w2 : vp_in (nI ((t * 144 + m) * 3 + c)) 1728 := vp_in_nI (by omega) (by omega)
  rw [wY_sort_53]
  refine br_f (nI_ge (b := 3) hc (by decide)) (br_f (by rw [nI_eq (by omega) (by omega)]; exact hne) ?_)
  refine y_at ⟨w1, nm_r (e' := rs ((t * 144 + i) * 3 + c)) (by rw [k1]) ?_⟩
  refine y_at (y_at ⟨w2, w1, nm_r (e' := upd rs ((t * 144 + i) * 3 + c) (rs ((t * 144 + m) * 3 + c))) (by rw [k1, k2]) ?_⟩)
  refine y_at ⟨w2, nm_r (e' := cq_s1 rs (t * 144 + i) (t * 144 + m) c) (by rw [k2]; rfl) (nm_r (nI_1 c) h)⟩
theorem y_sw {post : SY → Prop} {J : _} {cp ph nw jn pj ag ac op : Int32} {wk ws fo ff fc hd ts ks vs rs ct : Nat → Int32} {x2 : Int32} {t i m : Nat} (ht : t < 4) (hi : i < 144) (hm : m < 144) (h0 : m = i → J (nI (i + 1)) wk ws fo ff fc hd ts ks vs rs ct) (h1 : m ≠ i → J (nI (i + 1)) wk ws fo ff fc hd ts ks vs (cq_s3 rs (t * 144 + i) (t * 144 + m)) ct) : ∃ n53 : Nat, wY_sort_53 post J (nI t) x2 (nI i) (nI m) cp ph nw jn pj ag ac op n53 0 wk ws fo ff fc hd ts ks vs rs ct := by
  by_cases e : m = i
  · refine ⟨1, ?_⟩
    rw [wY_sort_53]
    exact br_f (by decide) (br_t (by rw [e]) (nm_r (nI_1 i) (h0 e)))
  · refine ⟨4, y_sw1 (c := 0) ht hi hm e (by decide) (y_sw1 (c := 1) ht hi hm e (by decide) (y_sw1 (c := 2) ht hi hm e (by decide) ?_))⟩
    rw [wY_sort_53]
    exact br_t (by decide) (nm_r (nI_1 i) (h1 e))
theorem y_minL {post : SY → Prop} {J : _} {cp ph nw jn pj ag ac op : Int32} {wk ws fo ff fc hd ts ks vs rs ct : Nat → Int32} {t i w : Nat} {f : Nat → Nat} (ht : t < 4) (hw : w ≤ 144) (hf : ∀ q, q < w → cq_Y rs (t * 144 + q) (f q)) (hb : ∀ q, q < w → f q < 268435456)
    (K : ∀ m, i ≤ m → m < w → (∀ q, i ≤ q → q < w → f m ≤ f q) → ∃ n53 : Nat, wY_sort_53 post J (nI t) (nI w) (nI i) (nI m) cp ph nw jn pj ag ac op n53 0 wk ws fo ff fc hd ts ks vs rs ct) :
    ∀ (d j m n : Nat), j + d = w → d < n → i ≤ m → m < j → (∀ q, i ≤ q → q < j → f m ≤ f q) → wY_sort_22 post J (nI t) (nI w) (nI i) cp ph nw jn pj ag ac op wk ws fo ff fc hd ts ks vs rs ct n (nI m) (nI j) := by
  intro d
  induction d with
  | zero =>
    intro j m n hj hn h1 h2 h3
    obtain ⟨n, rfl⟩ : ∃ m, n = m + 1 := ⟨n - 1, by omega⟩
    have hj' : j = w := by omega
    subst hj'
    rw [wY_sort_22]
    exact br_t (nI_le (Nat.le_refl _) (by omega)) (K m h1 h2 h3)
  | succ d ih =>
    intro j m n hj hn h1 h2 h3
    obtain ⟨n, rfl⟩ : ∃ m, n = m + 1 := ⟨n - 1, by omega⟩
    rw [wY_sort_22]
    refine br_f (nI_ge (by omega) (by omega)) ?_
    refine y_less ht (by omega) (by omega) (hf j (by omega)) (hf m (by omega)) (hb j (by omega)) (hb m (by omega)) (fun e => ?_) (fun e => ?_)
    · refine br_f (by decide) (nm_r (nI_1 j) (ih (j + 1) j n (by omega) (by omega) (by omega) (by omega) (fun q h4 h5 => ?_)))
      by_cases e2 : q = j
      · rw [e2]; exact Nat.le_refl _
      · have := h3 q h4 (by omega)
        omega
    · refine br_t rfl (nm_r (nI_1 j) (ih (j + 1) m n (by omega) (by omega) h1 (by omega) (fun q h4 h5 => ?_)))
      by_cases e2 : q = j
      · rw [e2]; omega
      · exact h3 q h4 (by omega)
theorem y_soL {post : SY → Prop} {cp ph nw jn pj ag ac op : Int32} {wk ws fo ff fc hd ts ks vs rs ct : Nat → Int32} {t w : Nat} {f0 : Nat → Nat} (ht : t < 4) (hw : w ≤ 144)
    (K : ∀ rs', cq_ar rs' ct t (cq_so (cq_L w f0)) → cq_pv t rs ct rs' ct → post (cp, ph, nw, jn, pj, ag, ac, op, wk, ws, fo, ff, fc, hd, ts, ks, vs, rs', ct)) :
    ∀ (d i n : Nat) (rs' : Nat → Int32) (f : Nat → Nat), i + d = w → d < n → List.Perm (cq_L w f) (cq_L w f0) → (∀ q, q < w → f q < 268435456) → (∀ p q, p < i → p < q → q < w → f p ≤ f q) → cq_ar rs' ct t (cq_L w f) → cq_pv t rs ct rs' ct → wY_sort_9 post (nI t) (nI w) cp ph nw jn pj ag ac op n (nI i) wk ws fo ff fc hd ts ks vs rs' ct := by
  intro d
  induction d with
  | zero =>
    intro i n rs' f hi hn hP hb hs ha hv
    obtain ⟨n, rfl⟩ : ∃ m, n = m + 1 := ⟨n - 1, by omega⟩
    rw [wY_sort_9]
    refine br_t (nI_le (by omega) (by omega)) (K rs' ?_ hv)
    rw [← cq_sou (cq_Ls (fun p q h1 h2 => hs p q (by omega) h1 h2)) hP]
    exact ha
  | succ d ih =>
    intro i n rs' f hi hn hP hb hs ha hv
    obtain ⟨n, rfl⟩ : ∃ m, n = m + 1 := ⟨n - 1, by omega⟩
    have hY : ∀ q, q < w → cq_Y rs' (t * 144 + q) (f q) := fun q hq => by
      have e := cq_arY ha (i := q) (by rw [cq_Ll]; exact hq)
      rw [cq_Lg hq] at e
      exact e
    rw [wY_sort_9]
    refine br_f (nI_ge (by omega) (by omega)) (nm_r (nI_1 i) ⟨w - i + 1, ?_⟩)
    refine y_minL ht hw hY hb (fun m h1 h2 h3 => ?_) (w - (i + 1)) (i + 1) i (w - i + 1) (by omega) (by omega) (Nat.le_refl _) (by omega) (fun q h4 h5 => by rw [show q = i by omega]; exact Nat.le_refl _)
    refine y_sw ht (by omega) (by omega) (fun e => ?_) (fun e => ?_)
    · subst e
      refine ih (m + 1) n rs' f (by omega) (by omega) hP hb (fun p q h4 h5 h6 => ?_) ha hv
      by_cases e2 : p = m
      · rw [e2]; exact h3 q (by omega) h6
      · exact hs p q (by omega) h5 h6
    · refine ih (i + 1) n _ (cq_sw f i m) (by omega) (by omega) ((cq_swp (by omega) h2).trans hP) (fun q hq => ?_) (cq_sel (by omega) h1 h2 hs h3) (cq_arS (by omega) h2 (fun z => e z.symm) ha) (cq_pvt hv (cq_pvS (by omega) (by omega)))
      unfold cq_sw
      split
      · exact hb _ h2
      · split
        · exact hb i (by omega)
        · exact hb q hq
theorem y_sort {post : SY → Prop} {cp ph nw jn pj ag ac op : Int32} {wk ws fo ff fc hd ts ks vs rs ct : Nat → Int32} {t : Nat} {L : List Nat} (ht : t < 4) (h : cq_ar rs ct t L) (hb : ∀ x, x ∈ L → x < 268435456)
    (K : ∀ rs', cq_ar rs' ct t (cq_so L) → cq_pv t rs ct rs' ct → post (cp, ph, nw, jn, pj, ag, ac, op, wk, ws, fo, ff, fc, hd, ts, ks, vs, rs', ct)) : wpY_sort post (cp, ph, nw, jn, pj, ag, ac, op, wk, ws, fo, ff, fc, hd, ts, ks, vs, rs, ct) (nI t) := by
  have e := cq_LE L
  have ct1 : (nI t).toNatClampNeg = t := nI_clamp (by omega)
  have H := y_soL (post := post) (cp := cp) (ph := ph) (nw := nw) (jn := jn) (pj := pj) (ag := ag) (ac := ac) (op := op) (wk := wk) (ws := ws) (fo := fo) (ff := ff) (fc := fc) (hd := hd) (ts := ts) (ks := ks) (vs := vs) (f0 := fun q => L.getD q 0) ht h.2.2 (by rw [e]; exact K) L.length 0 (L.length + 1) rs (fun q => L.getD q 0) (by omega) (by omega) (List.Perm.refl _) (fun q hq => hb _ (cq_gm hq)) (fun p q h1 => absurd h1 (Nat.not_lt_zero p)) (by rw [e]; exact h) cq_pvr
  unfold wpY_sort
  dsimp only
  refine ⟨vp_in_nI ht (by omega), ?_⟩
  rw [ct1]
  exact nm_r h.2.1 ⟨L.length + 1, H⟩
end
section
/-! the reference: counts, copies, surplus, expiry -/
theorem cq_ek {a b : Nat} {A B : Prop} (ha : a < 2 ^ 31) (hb : b < 2 ^ 31) (f : a = b → A) (g : ¬ a = b → B) : (nI a = nI b → A) ∧ (¬ nI a = nI b → B) := by
  rw [nI_eq ha hb]
  exact ⟨f, g⟩
theorem y_cntL {post : Int32 → Prop} {cp ph nw jn pj ag ac op : Int32} {wk ws fo ff fc hd ts ks vs rs ct : Nat → Int32} {t lim x : Nat} {L : List Nat} (ht : t < 4) (hlim : lim ≤ L.length) (hl : L.length ≤ 144) (hY : cq_S (cq_Y rs) (t * 144) L) (hb : ∀ y, y ∈ L → y < 268435456) (bx : x < 268435456) (h : post (nI ((L.take lim).count x))) :
    ∀ (d i n : Nat), i + d = lim → d < n → wY_countEq_6 post (nI t) (nI lim) (nI (cq_cl 0 x)) (nI (cq_cl 1 x)) (nI (cq_cl 2 x)) cp ph nw jn pj ag ac op wk ws fo ff fc hd ts ks vs rs ct n (nI ((L.take i).count x)) (nI i) := by
  intro d
  induction d with
  | zero =>
    intro i n hi hn
    obtain ⟨n, rfl⟩ : ∃ m, n = m + 1 := ⟨n - 1, by omega⟩
    have hi' : i = lim := by omega
    subst hi'
    rw [wY_countEq_6]
    exact br_t (nI_le (Nat.le_refl _) (by omega)) h
  | succ d ih =>
    intro i n hi hn
    obtain ⟨n, rfl⟩ : ∃ m, n = m + 1 := ⟨n - 1, by omega⟩
    have hy := hY i (by omega)
    have by' := hb _ (cq_gm (L := L) (i := i) (by omega))
    have b0 := cq_bb by' (c := 0) (by decide)
    have b1 := cq_bb by' (c := 1) (by decide)
    have b2 := cq_bb by' (c := 2) (by decide)
    have d0 := cq_bb bx (c := 0) (by decide)
    have d1 := cq_bb bx (c := 1) (by decide)
    have d2 := cq_bb bx (c := 2) (by decide)
    have H := ih (i + 1) n (by omega) (by omega)
    rw [cq_tk (by omega), cq_cs] at H
    have no : ¬ L.getD i 0 = x → wY_countEq_6 post (nI t) (nI lim) (nI (cq_cl 0 x)) (nI (cq_cl 1 x)) (nI (cq_cl 2 x)) cp ph nw jn pj ag ac op wk ws fo ff fc hd ts ks vs rs ct n (nI ((L.take i).count x)) (nI (i + 1)) := by
      intro ne
      rw [if_neg ne] at H
      exact H
    rw [wY_countEq_6]
    refine br_f (nI_ge (by omega) (by omega)) (br_f (nI_ge (b := 144) (by omega) (by decide)) ?_)
    refine y_at (c := 0) ⟨vp_in_nI (by omega) (by omega), ?_⟩
    rw [nI_clamp (by omega), cq_Yc hy (c := 0) (by decide)]
    refine cq_ek (by omega) (by omega) (fun e0 => ?_) (fun e => nm_r (nI_1 i) (no (fun z => e (by rw [z]))))
    refine y_at (c := 1) ⟨vp_in_nI (by omega) (by omega), ?_⟩
    rw [nI_clamp (by omega), cq_Yc hy (c := 1) (by decide)]
    refine cq_ek (by omega) (by omega) (fun e1 => ?_) (fun e => nm_r (nI_1 i) (no (fun z => e (by rw [z]))))
    refine y_at (c := 2) ⟨vp_in_nI (by omega) (by omega), ?_⟩
    rw [nI_clamp (by omega), cq_Yc hy (c := 2) (by decide)]
    refine cq_ek (by omega) (by omega) (fun e2 => ?_) (fun e => nm_r (nI_1 i) (no (fun z => e (by rw [z]))))
    rw [if_pos (cq_eq e0 e1 e2)] at H
    exact nm_r (nI_1 _) (nm_r (nI_1 i) H)
theorem y_cnt {post : Int32 → Prop} {cp ph nw jn pj ag ac op : Int32} {wk ws fo ff fc hd ts ks vs rs ct : Nat → Int32} {t lim x : Nat} {L : List Nat} (ht : t < 4) (hlim : lim ≤ L.length) (hl : L.length ≤ 144) (hY : cq_S (cq_Y rs) (t * 144) L) (hb : ∀ y, y ∈ L → y < 268435456) (bx : x < 268435456) (h : post (nI ((L.take lim).count x))) : wpY_countEq post (cp, ph, nw, jn, pj, ag, ac, op, wk, ws, fo, ff, fc, hd, ts, ks, vs, rs, ct) (nI t) (nI lim) (nI (cq_cl 0 x)) (nI (cq_cl 1 x)) (nI (cq_cl 2 x)) := by
  unfold wpY_countEq
  exact ⟨lim + 1, y_cntL ht hlim hl hY hb bx h lim 0 (lim + 1) (by omega) (by omega)⟩
theorem y_copL {post : SY → Prop} {cp ph nw jn pj ag ac op : Int32} {wk ws fo ff fc hd ts ks vs rs ct : Nat → Int32} {f t : Nat} {L : List Nat} (hf : f < 4) (ht : t < 4) (hne : f ≠ t) (h : cq_ar rs ct f L)
    (K : ∀ rs' ct', cq_ar rs' ct' t L → cq_pv t rs ct rs' ct' → post (cp, ph, nw, jn, pj, ag, ac, op, wk, ws, fo, ff, fc, hd, ts, ks, vs, rs', ct')) :
    ∀ (d i n : Nat) (rs' ct' : Nat → Int32), i + d = L.length → d < n → cq_ar rs' ct' t (L.take i) → cq_pv t rs ct rs' ct' → wY_copyArea_9 post (nI f) (nI t) n (nI i) cp ph nw jn pj ag ac op wk ws fo ff fc hd ts ks vs rs' ct' := by
  have c1 : (nI f).toNatClampNeg = f := nI_clamp (by omega)
  have w1 : vp_in (nI f) 4 := vp_in_nI hf (by omega)
  have hl := h.2.2
  intro d
  induction d with
  | zero =>
    intro i n rs' ct' hi hn ha hv
    obtain ⟨n, rfl⟩ : ∃ m, n = m + 1 := ⟨n - 1, by omega⟩
    have hi' : i = L.length := by omega
    subst hi'
    rw [List.take_length] at ha
    rw [wY_copyArea_9]
    refine ⟨w1, ?_⟩
    rw [c1, (hv f L hne h).2.1]
    exact br_t (nI_le (Nat.le_refl _) (by omega)) (K rs' ct' ha hv)
  | succ d ih =>
    intro i n rs' ct' hi hn ha hv
    obtain ⟨n, rfl⟩ : ∃ m, n = m + 1 := ⟨n - 1, by omega⟩
    have hF := hv f L hne h
    have hy := cq_arY hF (i := i) (by omega)
    have lt : (L.take i).length = i := by rw [List.length_take]; omega
    rw [wY_copyArea_9]
    refine ⟨w1, ?_⟩
    rw [c1, hF.2.1]
    refine br_f (nI_ge (by omega) (by omega)) ?_
    refine y_at (c := 0) ⟨vp_in_nI (by omega) (by omega), ?_⟩
    refine y_at (c := 1) ⟨vp_in_nI (by omega) (by omega), ?_⟩
    refine y_at (c := 2) ⟨vp_in_nI (by omega) (by omega), ?_⟩
    refine y_put (x := L.getD i 0) ht ha (by omega) (by rw [nI_clamp (by omega)]; exact cq_Yc hy (by decide)) (by rw [nI_clamp (by omega)]; exact cq_Yc hy (by decide)) (by rw [nI_clamp (by omega)]; exact cq_Yc hy (by decide)) (fun rs2 ct2 h2 v2 => nm_r (nI_1 i) ?_)
    rw [← cq_tk (by omega)] at h2
    exact ih (i + 1) n rs2 ct2 (by omega) (by omega) h2 (cq_pvt hv v2)
theorem y_cop {post : SY → Prop} {cp ph nw jn pj ag ac op : Int32} {wk ws fo ff fc hd ts ks vs rs ct : Nat → Int32} {f t : Nat} {L : List Nat} (hf : f < 4) (ht : t < 4) (hne : f ≠ t) (h : cq_ar rs ct f L)
    (K : ∀ rs' ct', cq_ar rs' ct' t L → cq_pv t rs ct rs' ct' → post (cp, ph, nw, jn, pj, ag, ac, op, wk, ws, fo, ff, fc, hd, ts, ks, vs, rs', ct')) : wpY_copyArea post (cp, ph, nw, jn, pj, ag, ac, op, wk, ws, fo, ff, fc, hd, ts, ks, vs, rs, ct) (nI f) (nI t) := by
  have c1 : (nI t).toNatClampNeg = t := nI_clamp (by omega)
  unfold wpY_copyArea
  dsimp only
  refine ⟨vp_in_nI ht (by omega), ?_⟩
  rw [c1]
  refine nm_e ⟨L.length + 1, ?_⟩
  exact y_copL hf ht hne h K L.length 0 (L.length + 1) rs (upd ct t 0) (by omega) (by omega) (by rw [List.take_zero]; exact cq_ar0) cq_pv0
theorem y_surL {post : SY → Prop} {cp ph nw jn pj ag ac op : Int32} {wk ws fo ff fc hd ts ks vs rs ct : Nat → Int32} {f g : Nat} {F O T : List Nat} (hf : f < 3) (hg : g < 3) (hF : cq_ar rs ct f F) (hO : cq_ar rs ct g O) (bF : ∀ y, y ∈ F → y < 268435456) (bO : ∀ y, y ∈ O → y < 268435456)
    (K : ∀ rs' ct', cq_ar rs' ct' 3 T → cq_pv 3 rs ct rs' ct' → post (cp, ph, nw, jn, pj, ag, ac, op, wk, ws, fo, ff, fc, hd, ts, ks, vs, rs', ct')) :
    ∀ (d i n : Nat) (rs' ct' : Nat → Int32) (D : List Nat), i + d = F.length → d < n → D.length ≤ i → cq_ar rs' ct' 3 D → cq_pv 3 rs ct rs' ct' → D ++ cq_su O (F.take i) (F.drop i) = T → wY_emitSurplus_2 post (nI f) (nI g) n (nI i) cp ph nw jn pj ag ac op wk ws fo ff fc hd ts ks vs rs' ct' := by
  have c1 : (nI f).toNatClampNeg = f := nI_clamp (by omega)
  have c2 : (nI g).toNatClampNeg = g := nI_clamp (by omega)
  have w1 : vp_in (nI f) 4 := vp_in_nI (by omega) (by omega)
  have w2 : vp_in (nI g) 4 := vp_in_nI (by omega) (by omega)
  have lF := hF.2.2
  have lO := hO.2.2
  intro d
  induction d with
  | zero =>
    intro i n rs' ct' D hi hn lD ha hv hT
    obtain ⟨n, rfl⟩ : ∃ m, n = m + 1 := ⟨n - 1, by omega⟩
    have hi' : i = F.length := by omega
    subst hi'
    rw [List.drop_length, cq_su, List.append_nil] at hT
    subst hT
    rw [wY_emitSurplus_2]
    refine ⟨w1, ?_⟩
    rw [c1, (hv f F (by omega) hF).2.1]
    exact br_t (nI_le (Nat.le_refl _) (by omega)) (K rs' ct' ha hv)
  | succ d ih =>
    intro i n rs' ct' D hi hn lD ha hv hT
    obtain ⟨n, rfl⟩ : ∃ m, n = m + 1 := ⟨n - 1, by omega⟩
    have hi1 : i < F.length := by omega
    have hF' := hv f F (by omega) hF
    have hO' := hv g O (by omega) hO
    have hy := cq_arY hF' (i := i) hi1
    have bx := bF _ (cq_gm hi1)
    have k1 := List.count_le_length (a := F.getD i 0) (l := F.take i)
    have k2 := List.count_le_length (a := F.getD i 0) (l := O)
    have lt : (F.take i).length = i := by rw [List.length_take]; omega
    rw [cq_dr hi1, cq_su, ← cq_tk hi1] at hT
    rw [wY_emitSurplus_2]
    refine ⟨w1, ?_⟩
    rw [c1, c2, hF'.2.1, hO'.2.1]
    refine br_f (nI_ge (by omega) (by omega)) ?_
    refine y_at (c := 0) ⟨vp_in_nI (by omega) (by omega), nm_r (e' := nI (cq_cl 0 (F.getD i 0))) (by rw [nI_clamp (by omega)]; exact cq_Yc hy (by decide)) ?_⟩
    refine y_at (c := 1) ⟨vp_in_nI (by omega) (by omega), nm_r (e' := nI (cq_cl 1 (F.getD i 0))) (by rw [nI_clamp (by omega)]; exact cq_Yc hy (by decide)) ?_⟩
    refine y_at (c := 2) ⟨vp_in_nI (by omega) (by omega), nm_r (e' := nI (cq_cl 2 (F.getD i 0))) (by rw [nI_clamp (by omega)]; exact cq_Yc hy (by decide)) ?_⟩
    refine y_cnt (L := F) (by omega) (by omega) lF hF'.1 bF bx ⟨w2, ?_⟩
    refine y_cnt (L := O) (by omega) (Nat.le_refl _) lO hO'.1 bO bx ?_
    rw [List.take_length]
    by_cases e : O.count (F.getD i 0) ≤ (F.take i).count (F.getD i 0)
    · rw [if_pos e, ← List.append_assoc] at hT
      refine br_f (nI_nlt e (by omega)) ?_
      exact y_put (t := 3) (x := F.getD i 0) (by omega) ha (by omega) rfl rfl rfl (fun rs2 ct2 h2 v2 => nm_r (nI_1 i) (ih (i + 1) n rs2 ct2 (D ++ [F.getD i 0]) (by omega) (by omega) (by rw [List.length_append, List.length_singleton]; omega) h2 (cq_pvt hv v2) hT))
    · rw [if_neg e, List.nil_append] at hT
      exact br_t (nI_lt (by omega) (by omega)) (nm_r (nI_1 i) (ih (i + 1) n rs' ct' D (by omega) (by omega) (by omega) ha hv hT))
theorem y_sur {post : SY → Prop} {cp ph nw jn pj ag ac op : Int32} {wk ws fo ff fc hd ts ks vs rs ct : Nat → Int32} {f g : Nat} {F O : List Nat} (hf : f < 3) (hg : g < 3) (hF : cq_ar rs ct f F) (hO : cq_ar rs ct g O) (h3 : cq_ar rs ct 3 []) (bF : ∀ y, y ∈ F → y < 268435456) (bO : ∀ y, y ∈ O → y < 268435456)
    (K : ∀ rs' ct', cq_ar rs' ct' 3 (cq_su O [] F) → cq_pv 3 rs ct rs' ct' → post (cp, ph, nw, jn, pj, ag, ac, op, wk, ws, fo, ff, fc, hd, ts, ks, vs, rs', ct')) : wpY_emitSurplus post (cp, ph, nw, jn, pj, ag, ac, op, wk, ws, fo, ff, fc, hd, ts, ks, vs, rs, ct) (nI f) (nI g) := by
  unfold wpY_emitSurplus
  refine ⟨F.length + 1, ?_⟩
  exact y_surL hf hg hF hO bF bO K F.length 0 (F.length + 1) rs ct [] (by omega) (by omega) (Nat.zero_le _) h3 cq_pvr (by rw [List.take_zero, List.drop_zero, List.nil_append])
theorem y_exL {post : SY → Prop} {cp ph nw jn pj ag ac op : Int32} {wk ws fo ff fc hd ts ks vs rs ct : Nat → Int32} {s h : Nat} {lim : Int32} (hs : s < 2) (hh : hd s = nI h) (h12 : h ≤ 12)
    (K : post (cp, ph, nw, jn, pj, ag, ac, op, wk, ws, fo, ff, fc, upd hd s (nI (cq_ex (s * 12) lim ts ks vs h).2.2.2), (cq_ex (s * 12) lim ts ks vs h).1, (cq_ex (s * 12) lim ts ks vs h).2.1, (cq_ex (s * 12) lim ts ks vs h).2.2.1, rs, ct)) :
    ∀ (d i n : Nat), i + d = h → d < n → wY_expire_28 post (nI s) lim cp ph nw jn pj ag ac op n (nI (cq_ex (s * 12) lim ts ks vs i).2.2.2) (nI i) wk ws fo ff fc hd ((cq_ex (s * 12) lim ts ks vs i).1) ((cq_ex (s * 12) lim ts ks vs i).2.1) ((cq_ex (s * 12) lim ts ks vs i).2.2.1) rs ct := by
  have c1 : (nI s).toNatClampNeg = s := nI_clamp (by omega)
  have w1 : vp_in (nI s) 2 := vp_in_nI hs (by omega)
  intro d
  induction d with
  | zero =>
    intro i n hi hn
    obtain ⟨n, rfl⟩ : ∃ m, n = m + 1 := ⟨n - 1, by omega⟩
    have hi' : i = h := by omega
    subst hi'
    rw [wY_expire_28]
    refine ⟨w1, ?_⟩
    rw [c1, hh]
    exact br_t (nI_le (Nat.le_refl _) (by omega)) ⟨w1, nm_e K⟩
  | succ d ih =>
    intro i n hi hn
    obtain ⟨n, rfl⟩ : ∃ m, n = m + 1 := ⟨n - 1, by omega⟩
    have kl := cq_exl (s * 12) lim ts ks vs i
    have c2 : (nI (s * 12 + i)).toNatClampNeg = s * 12 + i := nI_clamp (by omega)
    have w2 : vp_in (nI (s * 12 + i)) 24 := vp_in_nI (by omega) (by omega)
    have c3 : (nI (s * 12 + (cq_ex (s * 12) lim ts ks vs i).2.2.2)).toNatClampNeg = s * 12 + (cq_ex (s * 12) lim ts ks vs i).2.2.2 := nI_clamp (by omega)
    have w3 : vp_in (nI (s * 12 + (cq_ex (s * 12) lim ts ks vs i).2.2.2)) 24 := vp_in_nI (by omega) (by omega)
    have H := ih (i + 1) n (by omega) (by omega)
    rw [wY_expire_28]
    refine ⟨w1, ?_⟩
    rw [c1, hh]
    refine br_f (nI_ge (by omega) (by omega)) (br_f (nI_ge (b := 12) (by omega) (by decide)) (nm_r (cq_pl s i) ⟨w2, ?_⟩))
    rw [c2, cq_pl, c3]
    by_cases e : lim < (cq_ex (s * 12) lim ts ks vs i).1 (s * 12 + i)
    · rw [cq_ext e] at H
      exact br_f (Int32.not_le.mpr e) ⟨w2, w3, nm_e ⟨w2, w3, nm_e ⟨w2, w3, nm_e (nm_r (nI_1 _) (nm_r (nI_1 i) H))⟩⟩⟩
    · rw [cq_exf e] at H
      exact br_t (Int32.not_lt.mp e) (nm_r (nI_1 i) H)
theorem y_exp {post : SY → Prop} {cp ph nw jn pj ag ac op : Int32} {wk ws fo ff fc hd ts ks vs rs ct : Nat → Int32} {s h : Nat} (hs : s < 2) (hh : hd s = nI h) (h12 : h ≤ 12)
    (K : post (cp, ph, nw, jn, pj, ag, ac, op, wk, ws, fo, ff, fc, (cq_xp s wk ws nw (hd, ts, ks, vs)).1, (cq_xp s wk ws nw (hd, ts, ks, vs)).2.1, (cq_xp s wk ws nw (hd, ts, ks, vs)).2.2.1, (cq_xp s wk ws nw (hd, ts, ks, vs)).2.2.2, rs, ct)) : wpY_expire post (cp, ph, nw, jn, pj, ag, ac, op, wk, ws, fo, ff, fc, hd, ts, ks, vs, rs, ct) (nI s) := by
  have c1 : (nI s).toNatClampNeg = s := nI_clamp (by omega)
  have w1 : vp_in (nI s) 2 := vp_in_nI hs (by omega)
  have ch : (hd s).toNatClampNeg = h := by rw [hh]; exact nI_clamp (by omega)
  unfold wpY_expire
  dsimp only
  rw [c1]
  by_cases e : wk s = 1
  · unfold cq_xp at K
    rw [if_pos e] at K
    dsimp only at K
    rw [ch] at K
    refine ⟨w1, br_t e ⟨w1, nm_e ⟨h + 1, ?_⟩⟩⟩
    exact y_exL hs hh h12 K h 0 (h + 1) (by omega) (by omega)
  · unfold cq_xp at K
    rw [if_neg e] at K
    exact ⟨w1, br_f e K⟩
end
section
/-! the reference: the step -/
theorem cq_soi {L : List Nat} (h : L.Pairwise (· ≤ ·)) : cq_so L = L := (cq_sou h (List.Perm.refl _)).symm
theorem y_371 {post : Int32 → SY → Prop} {cp ph nw jn pj ag ac op : Int32} {wk ws fo ff fc hd ts ks vs rs ct : Nat → Int32} {h0 h1 : Nat} {S O : List Nat} {Q : (Nat → Int32) × (Nat → Int32) × (Nat → Int32) × (Nat → Int32)} (hh0 : hd 0 = nI h0) (h012 : h0 ≤ 12) (hh : hd 1 = nI h1) (h12 : h1 ≤ 12) (hS : cq_ar rs ct 1 S) (hO : cq_ar rs ct 3 O) (sO : O.Pairwise (· ≤ ·)) (bO : ∀ x, x ∈ O → x < 268435456) (hQ : Q = cq_xp 1 wk ws (nw + 1) (cq_xp 0 wk ws (nw + 1) (hd, ts, ks, vs)))
    (kf : ∀ rs' ct', cq_ar rs' ct' 2 S → cq_ar rs' ct' 3 O → post (nI O.length) (cp, ph, nw + 1, jn, pj, ag, ac, op, wk, ws, fo, ff, fc, Q.1, Q.2.1, Q.2.2.1, Q.2.2.2, rs', ct')) : wY_step_371 post cp ph nw jn pj ag ac op wk ws fo ff fc hd ts ks vs rs ct := by
  subst hQ
  unfold wY_step_371
  refine y_sort (t := 3) (by decide) hO bO (fun rs1 h1' v1 => ?_)
  rw [cq_soi sO] at h1'
  refine y_cop (f := 1) (t := 2) (by decide) (by decide) (by decide) (v1 1 S (by decide) hS) (fun rs2 ct2 h2 v2 => ?_)
  have hO2 := v2 3 O (by decide) h1'
  refine nm_e ?_
  refine y_exp (s := 0) (h := h0) (by decide) hh0 h012 ?_
  have hx : (cq_xp 0 wk ws (nw + 1) (hd, ts, ks, vs)).1 1 = nI h1 := by
    unfold cq_xp
    split
    · dsimp only; rw [pk_un (by decide)]; exact hh
    · exact hh
  refine y_exp (s := 1) (h := h1) (by decide) hx h12 ?_
  have F := kf rs2 ct2 h2 hO2
  rw [← hO2.2.1] at F
  exact F
def cq_bt : Nat → Nat → Nat
  | m, 0 => m % 2
  | m, 1 => m / 2 % 2
  | m, _ => m / 4 % 2
theorem cq_btT : ∀ (m : Fin 8) (c : Fin 3), ((((nI m.val) >>> ((nI c.val) &&& 31)) &&& 1) = 0 ↔ ¬ cq_bt m.val c.val = 1) := by decide +kernel
theorem cq_btE {m c : Nat} (hm : m ≤ 7) (hc : c < 3) : (((nI m) >>> ((nI c) &&& 31)) &&& 1) = 0 ↔ ¬ cq_bt m c = 1 := cq_btT ⟨m, by omega⟩ ⟨c, hc⟩
theorem cq_btc {m x c : Nat} (hx : x < 268435456) (hc : c < 3) : cq_cl c (cq_pr m x) = if cq_bt m c = 1 then cq_cl c x else 0 := by
  match c, hc with
  | 0, _ => exact cq_pr0 hx
  | 1, _ => exact cq_pr1 m x
  | 2, _ => exact cq_pr2 m x
def cq_z1 (rs : Nat → Int32) (o m c : Nat) : Nat → Int32 := if cq_bt m c = 1 then rs else upd rs (o * 3 + c) 0
theorem cq_z1a {rs : Nat → Int32} {o m c j : Nat} (hj : j = o * 3 + c) : cq_z1 rs o m c j = if cq_bt m c = 1 then rs j else 0 := by
  unfold cq_z1
  split
  · rfl
  · rw [hj, pk_us]
theorem cq_z1b {rs : Nat → Int32} {o m c j : Nat} (hj : j ≠ o * 3 + c) : cq_z1 rs o m c j = rs j := by
  unfold cq_z1
  split
  · rfl
  · rw [pk_un hj]
def cq_z3 (rs : Nat → Int32) (o m : Nat) : Nat → Int32 := cq_z1 (cq_z1 (cq_z1 rs o m 0) o m 1) o m 2
theorem cq_z3n {rs : Nat → Int32} {o m o' y : Nat} (h : o' ≠ o) (hy : cq_Y rs o' y) : cq_Y (cq_z3 rs o m) o' y := by
  unfold cq_Y at hy ⊢
  unfold cq_z3
  refine ⟨?_, ?_, ?_⟩
  · rw [cq_z1b (by omega), cq_z1b (by omega), cq_z1b (by omega)]; exact hy.1
  · rw [cq_z1b (by omega), cq_z1b (by omega), cq_z1b (by omega)]; exact hy.2.1
  · rw [cq_z1b (by omega), cq_z1b (by omega), cq_z1b (by omega)]; exact hy.2.2
theorem cq_nIif {p : Prop} {d : Decidable p} {a : Nat} : (if p then nI a else 0) = nI (if p then a else 0) := by
  split
  · rfl
  · exact nI_0.symm
theorem cq_z3s {rs : Nat → Int32} {o m x : Nat} (hx : x < 268435456) (hy : cq_Y rs o x) : cq_Y (cq_z3 rs o m) o (cq_pr m x) := by
  unfold cq_Y at hy ⊢
  unfold cq_z3
  rw [cq_btc hx (by decide), cq_btc hx (by decide), cq_btc hx (by decide)]
  refine ⟨?_, ?_, ?_⟩
  · rw [cq_z1b (by omega), cq_z1b (by omega), cq_z1a (by omega), hy.1]; exact cq_nIif
  · rw [cq_z1b (by omega), cq_z1a (by omega), cq_z1b (by omega), hy.2.1]; exact cq_nIif
  · rw [cq_z1a (by omega), cq_z1b (by omega), cq_z1b (by omega), hy.2.2]; exact cq_nIif
theorem cq_pvZ {rs ct : Nat → Int32} {t i m : Nat} (hi : i < 144) : cq_pv t rs ct (cq_z3 rs (t * 144 + i) m) ct := by
  intro a L ha h
  have hl := h.2.2
  exact ⟨cq_imp h.1 (fun o y h1 h2 h3 => cq_z3n (by omega) h3), h.2.1, hl⟩
theorem y_z1 {post : Int32 → SY → Prop} {J : _} {cp ph nw jn ag ac op : Int32} {wk ws fo ff fc hd ts ks vs rs ct : Nat → Int32} {i m c n : Nat} (hi : i < 144) (hm : m ≤ 7) (hc : c < 3) (h : wY_step_278 post J (nI i) cp ph nw jn (nI m) ag ac op n (nI (c + 1)) wk ws fo ff fc hd ts ks vs (cq_z1 rs (1 * 144 + i) m c) ct) : wY_step_278 post J (nI i) cp ph nw jn (nI m) ag ac op (n + 1) (nI c) wk ws fo ff fc hd ts ks vs rs ct := by
  rw [wY_step_278]
  refine br_f (nI_ge (b := 3) hc (by decide)) ?_
  by_cases e : cq_bt m c = 1
  · have ez : cq_z1 rs (1 * 144 + i) m c = rs := by unfold cq_z1; rw [if_pos e]
    rw [ez] at h
    exact br_f (fun z => (cq_btE hm hc).mp z e) (nm_r (nI_1 c) h)
  · have ez : cq_z1 rs (1 * 144 + i) m c = upd rs ((1 * 144 + i) * 3 + c) 0 := by unfold cq_z1; rw [if_neg e]
    rw [ez] at h
    refine br_t ((cq_btE hm hc).mpr e) (y_at (a := 1) ⟨vp_in_nI (by omega) (by omega), ?_⟩)
    rw [nI_clamp (by omega)]
    exact nm_e (nm_r (nI_1 c) h)
theorem y_z {post : Int32 → SY → Prop} {J : _} {cp ph nw jn ag ac op : Int32} {wk ws fo ff fc hd ts ks vs rs ct : Nat → Int32} {i m : Nat} (hi : i < 144) (hm : m ≤ 7) (h : J (nI (i + 1)) wk ws fo ff fc hd ts ks vs (cq_z3 rs (1 * 144 + i) m) ct) : wY_step_278 post J (nI i) cp ph nw jn (nI m) ag ac op 4 0 wk ws fo ff fc hd ts ks vs rs ct := by
  refine y_z1 (c := 0) hi hm (by decide) (y_z1 (c := 1) hi hm (by decide) (y_z1 (c := 2) hi hm (by decide) ?_))
  rw [wY_step_278]
  exact br_t (by decide) (nm_r (nI_1 i) h)
theorem y_266 {post : Int32 → SY → Prop} {cp ph nw jn ag ac : Int32} {wk ws fo ff fc hd ts ks vs rs ct : Nat → Int32} {h0 h1 m t : Nat} {L R S O : List Nat} {Q : (Nat → Int32) × (Nat → Int32) × (Nat → Int32) × (Nat → Int32)} (hh0 : hd 0 = nI h0) (h012 : h0 ≤ 12) (hh : hd 1 = nI h1) (h12 : h1 ≤ 12) (hm7 : m ≤ 7) (ht1 : 1 ≤ t) (ht3 : t ≤ 3) (hL : cq_ar rs ct 1 L) (bL : ∀ x, x ∈ L → x < 268435456) (hR : cq_ar rs ct 2 R) (sR : R.Pairwise (· ≤ ·)) (bR : ∀ x, x ∈ R → x < 268435456) (hQ : Q = cq_xp 1 wk ws (nw + 1) (cq_xp 0 wk ws (nw + 1) (hd, ts, ks, vs))) (eS : S = cq_so (L.map (cq_pr m))) (eO : O = cq_ou t S R)
    (kf : ∀ rs' ct', cq_ar rs' ct' 2 S → cq_ar rs' ct' 3 O → post (nI O.length) (cp, ph, nw + 1, jn, nI m, ag, ac, nI t, wk, ws, fo, ff, fc, Q.1, Q.2.1, Q.2.2.1, Q.2.2.2, rs', ct')) :
    ∀ (d i n : Nat) (rs' : Nat → Int32), i + d = L.length → d < n → (∀ j, j < i → cq_Y rs' (1 * 144 + j) (cq_pr m (L.getD j 0))) → (∀ j, i ≤ j → j < L.length → cq_Y rs' (1 * 144 + j) (L.getD j 0)) → cq_pv 1 rs ct rs' ct → wY_step_266 post cp ph nw jn (nI m) ag ac (nI t) n (nI i) wk ws fo ff fc hd ts ks vs rs' ct := by
  have lL := hL.2.2
  have bM : ∀ x, x ∈ L.map (cq_pr m) → x < 268435456 := fun x hx => by
    obtain ⟨y, hy, e⟩ := List.mem_map.mp hx
    rw [← e]
    exact cq_prb (bL y hy)
  have sS : S.Pairwise (· ≤ ·) := by rw [eS]; exact cq_sos _
  have bS : ∀ x, x ∈ S → x < 268435456 := fun x hx => by rw [eS] at hx; exact bM x (cq_som.mp hx)
  have sO : O.Pairwise (· ≤ ·) := by
    rw [eO]
    rcases cq_ouS t S R with z | z
    · exact sS.sublist z
    · exact sR.sublist z
  have bO : ∀ x, x ∈ O → x < 268435456 := fun x hx => by
    rw [eO] at hx
    rcases cq_ouS t S R with z | z
    · exact bS x (z.subset hx)
    · exact bR x (z.subset hx)
  intro d
  induction d with
  | zero =>
    intro i n rs' hi hn h1' h2' hv
    obtain ⟨n, rfl⟩ : ∃ m, n = m + 1 := ⟨n - 1, by omega⟩
    have hM : cq_ar rs' ct 1 (L.map (cq_pr m)) := by
      refine ⟨fun j hj => ?_, by rw [List.length_map]; exact hL.2.1, by rw [List.length_map]; exact lL⟩
      rw [List.length_map] at hj
      rw [cq_gmap hj]
      exact h1' j (by omega)
    rw [wY_step_266]
    refine br_t (by rw [hL.2.1]; exact nI_le (by omega) (by omega)) ?_
    refine y_sort (t := 1) (by decide) hM bM (fun rs1 hs1 v1 => nm_e ?_)
    rw [← eS] at hs1
    have hS0 := (cq_pv0 (t := 3) (v := 0) : cq_pv 3 rs1 ct rs1 (upd ct 3 0)) 1 S (by decide) hs1
    have hR0 := (cq_pv0 (t := 3) (v := 0) : cq_pv 3 rs1 ct rs1 (upd ct 3 0)) 2 R (by decide) (v1 2 R (by decide) (hv 2 R (by decide) hR))
    have h30 : cq_ar rs1 (upd ct 3 0) 3 [] := cq_ar0
    have hm : t = 1 ∨ t = 2 ∨ t = 3 := by omega
    rcases hm with rfl | rfl | rfl
    · refine br_f (by decide) (br_t (by decide) ?_)
      refine y_sur (f := 1) (g := 2) (by decide) (by decide) hS0 hR0 h30 bS bR (fun rs2 ct2 ho v2 => ?_)
      have e : cq_su R [] S = O := by rw [eO, cq_mdE sS sR]; rfl
      rw [e] at ho
      exact y_371 hh0 h012 hh h12 (v2 1 S (by decide) hS0) ho sO bO hQ kf
    · refine br_f (by decide) (br_f (by decide) ?_)
      refine y_sur (f := 2) (g := 1) (by decide) (by decide) hR0 hS0 h30 bR bS (fun rs2 ct2 ho v2 => ?_)
      have e : cq_su S [] R = O := by rw [eO, cq_mdE sR sS]; rfl
      rw [e] at ho
      exact y_371 hh0 h012 hh h12 (v2 1 S (by decide) hS0) ho sO bO hQ kf
    · refine br_t (by decide) ?_
      refine y_cop (f := 1) (t := 3) (by decide) (by decide) (by decide) hS0 (fun rs2 ct2 ho v2 => ?_)
      have e : S = O := by rw [eO]; rfl
      exact y_371 hh0 h012 hh h12 (v2 1 S (by decide) hS0) (by rw [← e]; exact ho) sO bO hQ kf
  | succ d ih =>
    intro i n rs' hi hn h1' h2' hv
    obtain ⟨n, rfl⟩ : ∃ m, n = m + 1 := ⟨n - 1, by omega⟩
    rw [wY_step_266]
    refine br_f (by rw [hL.2.1]; exact nI_ge (by omega) (by omega)) ⟨4, y_z (by omega) hm7 (ih (i + 1) n _ (by omega) (by omega) (fun j hj => ?_) (fun j hj1 hj2 => ?_) (cq_pvt hv (cq_pvZ (by omega))))⟩
    · by_cases e : j = i
      · rw [e]
        exact cq_z3s (bL _ (cq_gm (by omega))) (h2' i (Nat.le_refl _) (by omega))
      · exact cq_z3n (by omega) (h1' j (by omega))
    · exact cq_z3n (by omega) (h2' j (by omega) hj2)
end
section
/-! the reference: groups, base rows, the step as a whole -/
theorem y_178 {post : Int32 → SY → Prop} {J : _} {cp ph nw jn pj op : Int32} {wk ws fo ff fc hd ts ks vs rs ct : Nat → Int32} {k a co : Nat} {B : List Nat} (hB : cq_ar rs ct 0 B) (hb : ∀ x, x ∈ B → cq_B x) (hk : k < 16) (ha : a < 3) (hco : co < 3) (hG : cq_ar rs ct 1 (cq_gp a co B k))
    (K : ∀ rs' ct', cq_ar rs' ct' 1 (cq_gp a co B (k + 1)) → cq_pv 1 rs ct rs' ct' → J (nI (k + 1)) cp ph nw jn pj (nI a) (nI co) op wk ws fo ff fc hd ts ks vs rs' ct') :
    ∀ (d i n : Nat), i + d = B.length → d < n → wY_step_178 post J (nI k) cp ph nw jn pj (nI a) (nI co) op wk ws fo ff fc hd ts ks vs rs ct n (nI (cq_gc k (B.take i))) (nI (cq_gs co k (B.take i))) (nI i) := by
  have hl := hB.2.2
  intro d
  induction d with
  | zero =>
    intro i n hi hn
    obtain ⟨n, rfl⟩ : ∃ m, n = m + 1 := ⟨n - 1, by omega⟩
    have hi' : i = B.length := by omega
    subst hi'
    have g1 := cq_gcl k B
    have g2 := cq_gpl a co B k
    rw [List.take_length, wY_step_178]
    refine br_t (by rw [hB.2.1]; exact nI_le (Nat.le_refl _) (by omega)) ?_
    by_cases e : 0 < cq_gc k B
    · have eg : cq_gp a co B (k + 1) = cq_gp a co B k ++ [cq_gr a co B k] := by rw [cq_gp, if_pos e]
      have gb := cq_gb (ag := a) (k := k) hb hl hco
      refine br_f (nI_nle e (by omega)) ?_
      have fin : ∀ z : Nat, z = (if a = 1 then cq_gc k B else cq_gs co k B) → wY_step_254 post J (nI k) (nI z) (nI k) 1 cp ph nw jn pj (nI a) (nI co) op wk ws fo ff fc hd ts ks vs rs ct := by
        intro z ez
        unfold wY_step_254
        refine y_put (t := 1) (x := cq_gr a co B k) (by decide) hG (by omega) ?_ ?_ ?_ (fun rs' ct' h1 v1 => nm_r (nI_1 k) (K rs' ct' (by rw [eg]; exact h1) v1))
        · unfold cq_gr; rw [cq_k0 gb (by decide)]
        · unfold cq_gr; rw [cq_k1 gb (by decide), ez]
        · unfold cq_gr; rw [cq_k2 (by decide)]; rfl
      by_cases ea : a = 1
      · exact br_t (by rw [ea]; rfl) (fin _ (by rw [if_pos ea]))
      · exact br_f (by rw [show (1 : Int32) = nI 1 from rfl, nI_eq (by omega) (by omega)]; exact ea) (fin _ (by rw [if_neg ea]))
    · have eg : cq_gp a co B (k + 1) = cq_gp a co B k := by rw [cq_gp, if_neg e]
      have e0 : cq_gc k B = 0 := by omega
      exact br_t (by rw [e0]; decide) (nm_r (nI_1 k) (K rs ct (by rw [eg]; exact hG) cq_pvr))
  | succ d ih =>
    intro i n hi hn
    obtain ⟨n, rfl⟩ : ∃ m, n = m + 1 := ⟨n - 1, by omega⟩
    have hx := hb _ (cq_gm (L := B) (i := i) (by omega))
    have b0 := cq_b0 hx.1
    have hy := cq_arY hB (i := i) (by omega)
    have et := cq_tk (L := B) (i := i) (by omega)
    have H := ih (i + 1) n (by omega) (by omega)
    rw [et, cq_gca, cq_gsa] at H
    rw [wY_step_178]
    refine br_f (by rw [hB.2.1]; exact nI_ge (by omega) (by omega)) ?_
    refine y_at (a := 0) (c := 0) ⟨vp_in_nI (by omega) (by omega), ?_⟩
    rw [nI_clamp (by omega), cq_Yc hy (c := 0) (by decide)]
    refine cq_ek (by omega) (by omega) (fun e => ?_) (fun e => ?_)
    · rw [if_pos e, if_pos e] at H
      refine nm_r (nI_1 _) (y_at (a := 0) ⟨vp_in_nI (by omega) (by omega), ?_⟩)
      rw [nI_clamp (by omega), cq_Yc hy hco]
      exact nm_r (nI_add _ _) (nm_r (nI_1 i) H)
    · rw [if_neg e, if_neg e] at H
      exact nm_r (nI_1 i) H
theorem y_165 {post : Int32 → SY → Prop} {cp ph nw jn : Int32} {wk ws fo ff fc hd ts ks vs rs ct : Nat → Int32} {h0 h1 m t a co : Nat} {B R S O : List Nat} {Q : (Nat → Int32) × (Nat → Int32) × (Nat → Int32) × (Nat → Int32)} (hh0 : hd 0 = nI h0) (h012 : h0 ≤ 12) (hh : hd 1 = nI h1) (h12 : h1 ≤ 12) (ha : a < 3) (ha0 : a ≠ 0) (hco : co < 3) (hm7 : m ≤ 7) (ht1 : 1 ≤ t) (ht3 : t ≤ 3) (hB : cq_ar rs ct 0 B) (bB : ∀ x, x ∈ B → cq_B x) (hR : cq_ar rs ct 2 R) (sR : R.Pairwise (· ≤ ·)) (bR : ∀ x, x ∈ R → x < 268435456) (hQ : Q = cq_xp 1 wk ws (nw + 1) (cq_xp 0 wk ws (nw + 1) (hd, ts, ks, vs))) (eS : S = cq_nx a co m B) (eO : O = cq_ou t S R)
    (kf : ∀ rs' ct', cq_ar rs' ct' 2 S → cq_ar rs' ct' 3 O → post (nI O.length) (cp, ph, nw + 1, jn, nI m, nI a, nI co, nI t, wk, ws, fo, ff, fc, Q.1, Q.2.1, Q.2.2.1, Q.2.2.2, rs', ct')) :
    ∀ (d k n : Nat) (rs' ct' : Nat → Int32), k + d = 16 → d < n → cq_ar rs' ct' 1 (cq_gp a co B k) → cq_pv 1 rs ct rs' ct' → wY_step_165 post n (nI k) cp ph nw jn (nI m) (nI a) (nI co) (nI t) wk ws fo ff fc hd ts ks vs rs' ct' := by
  intro d
  induction d with
  | zero =>
    intro k n rs' ct' hk hn hG hv
    obtain ⟨n, rfl⟩ : ∃ m, n = m + 1 := ⟨n - 1, by omega⟩
    have hk' : k = 16 := by omega
    subst hk'
    have eS' : S = cq_so ((cq_gp a co B 16).map (cq_pr m)) := by
      rw [eS]; unfold cq_nx cq_n0; rw [if_neg ha0]
    rw [wY_step_165]
    refine br_t (by decide) ⟨(cq_gp a co B 16).length + 1, ?_⟩
    exact y_266 hh0 h012 hh h12 hm7 ht1 ht3 hG (cq_gpb bB hB.2.2 hco 16 (Nat.le_refl _)) (hv 2 R (by decide) hR) sR bR hQ eS' eO kf (cq_gp a co B 16).length 0 _ rs' (by omega) (by omega) (fun j hj => absurd hj (Nat.not_lt_zero j)) (fun j _ hj => cq_arY hG hj) cq_pvr
  | succ d ih =>
    intro k n rs' ct' hk hn hG hv
    obtain ⟨n, rfl⟩ : ∃ m, n = m + 1 := ⟨n - 1, by omega⟩
    rw [wY_step_165]
    refine br_f (nI_ge (b := 16) (by omega) (by decide)) ⟨B.length + 1, ?_⟩
    exact y_178 (hv 0 B (by decide) hB) bB (by omega) ha hco hG (fun rs2 ct2 h2 v2 => ih (k + 1) n rs2 ct2 (by omega) (by omega) h2 (cq_pvt hv v2)) B.length 0 (B.length + 1) (by omega) (by omega)
theorem y_76 {post : Int32 → SY → Prop} {J : _} {cp ph nw jn pj ag ac op : Int32} {wk ws fo ff fc hd ts ks vs rs ct : Nat → Int32} {K V : Nat → Nat} {q : Nat → Bool} {i h1 o : Nat} (hK : ∀ j, ks j = nI (K j) ∧ K j < 16) (hV : ∀ j, vs j = nI (V j) ∧ V j < 256) (hh : hd 1 = nI h1) (h12 : h1 ≤ 12) (ho : o < 5) (hf : fo 1 = nI o) (hq : ∀ j, cq_ps (fo 1) (ff 1) (fc 1) (ks (12 + j)) (vs (12 + j)) = q j) {L : List Nat} (hL : L.length + 12 ≤ 144)
    (k : ∀ rs' ct', cq_ar rs' ct' 0 (L ++ cq_in K V q i h1) → cq_pv 0 rs ct rs' ct' → J (nI (i + 1)) cp ph nw jn pj ag ac op wk ws fo ff fc hd ts ks vs rs' ct') :
    ∀ (d j n : Nat) (rs' ct' : Nat → Int32), j + d = h1 → d < n → cq_ar rs' ct' 0 (L ++ cq_in K V q i j) → cq_pv 0 rs ct rs' ct' → wY_step_76 post J (nI i) (nI (K i)) (nI (V i)) n (nI j) cp ph nw jn pj ag ac op wk ws fo ff fc hd ts ks vs rs' ct' := by
  intro d
  induction d with
  | zero =>
    intro j n rs' ct' hj hn hS hv
    obtain ⟨n, rfl⟩ : ∃ m, n = m + 1 := ⟨n - 1, by omega⟩
    have hj' : j = h1 := by omega
    subst hj'
    rw [wY_step_76]
    exact br_t (by rw [hh]; exact nI_le (Nat.le_refl _) (by omega)) (nm_r (nI_1 i) (k rs' ct' hS hv))
  | succ d ih =>
    intro j n rs' ct' hj hn hS hv
    obtain ⟨n, rfl⟩ : ∃ m, n = m + 1 := ⟨n - 1, by omega⟩
    have hlt : ¬ hd 1 ≤ nI j := by rw [hh]; exact nI_ge (by omega) (by omega)
    have e12 : (12 : Int32) + nI j = nI (12 + j) := nI_add 12 j
    have c1 : (nI (12 + j)).toNatClampNeg = 12 + j := nI_clamp (by omega)
    have w1 : vp_in (nI (12 + j)) 24 := vp_in_nI (by omega) (by omega)
    have b1 := (hK (12 + j)).2
    have b2 := (hK i).2
    have b3 := (hV i).2
    have b4 := (hV (12 + j)).2
    have hl := cq_inl K V q i j
    have no : ¬ (K (12 + j) = K i ∧ q j = true) → wY_step_76 post J (nI i) (nI (K i)) (nI (V i)) n (nI (j + 1)) cp ph nw jn pj ag ac op wk ws fo ff fc hd ts ks vs rs' ct' := by
      intro ne
      have ein : cq_in K V q i (j + 1) = cq_in K V q i j := by rw [cq_in, if_neg ne]
      exact ih (j + 1) n rs' ct' (by omega) (by omega) (by rw [ein]; exact hS) hv
    rw [wY_step_76]
    refine br_f hlt (y_pass (s := 1) (p := 12 + j) (by omega) (by omega) (by omega) ho hf (fun hp => ?_) (fun hp => ?_))
    · refine br_f (by decide) ?_
      rw [e12, c1, (hK (12 + j)).1, (hV (12 + j)).1]
      refine ⟨w1, cq_ek (by omega) (by omega) (fun e => ⟨w1, ?_⟩) (fun e => nm_r (nI_1 j) (no (fun z => e z.1)))⟩
      have ein : cq_in K V q i (j + 1) = cq_in K V q i j ++ [cq_pk (K i) (V i) (V (12 + j))] := by
        rw [cq_in, if_pos ⟨e, (hq j).symm.trans hp⟩]
      refine y_put (t := 0) (x := cq_pk (K i) (V i) (V (12 + j))) (by decide) hS (by rw [List.length_append]; omega) (by rw [cq_k0 (by omega) b4]) (by rw [cq_k1 (by omega) b4]) (by rw [cq_k2 b4]) (fun rs2 ct2 h2 v2 => nm_r (nI_1 j) ?_)
      exact ih (j + 1) n rs2 ct2 (by omega) (by omega) (by rw [ein, ← List.append_assoc]; exact h2) (cq_pvt hv v2)
    · exact br_t rfl (nm_r (nI_1 j) (no (fun z => by have := (hq j).symm.trans hp; rw [z.2] at this; exact absurd this (by decide))))
theorem y_19 {post : Int32 → SY → Prop} {cp ph nw jn : Int32} {wk ws fo ff fc hd ts ks vs rs ct : Nat → Int32} {K V : Nat → Nat} {p q : Nat → Bool} {jb : Bool} {h0 h1 m t a co o o' : Nat} {B R S O : List Nat} {Q : (Nat → Int32) × (Nat → Int32) × (Nat → Int32) × (Nat → Int32)} (hK : ∀ j, ks j = nI (K j) ∧ K j < 16) (hV : ∀ j, vs j = nI (V j) ∧ V j < 256) (hh0 : hd 0 = nI h0) (h012 : h0 ≤ 12) (hh : hd 1 = nI h1) (h12 : h1 ≤ 12) (ho : o < 5) (hf : fo 1 = nI o) (ho' : o' < 5) (hf' : fo 0 = nI o') (hp : ∀ j, cq_ps (fo 0) (ff 0) (fc 0) (ks j) (vs j) = p j) (hq : ∀ j, cq_ps (fo 1) (ff 1) (fc 1) (ks (12 + j)) (vs (12 + j)) = q j) (hj0 : jn = 0 → jb = false) (hj1 : ¬ jn = 0 → jb = true)
    (ha : a < 3) (hco : co < 3) (hm7 : m ≤ 7) (ht1 : 1 ≤ t) (ht3 : t ≤ 3) (eB : B = cq_bs jb K V p q h1 h0) (hR : cq_ar rs ct 2 R) (sR : R.Pairwise (· ≤ ·)) (bR : ∀ x, x ∈ R → x < 268435456) (hQ : Q = cq_xp 1 wk ws (nw + 1) (cq_xp 0 wk ws (nw + 1) (hd, ts, ks, vs))) (eS : S = cq_nx a co m B) (eO : O = cq_ou t S R)
    (kf : ∀ rs' ct', cq_ar rs' ct' 2 S → cq_ar rs' ct' 3 O → post (nI O.length) (cp, ph, nw + 1, jn, nI m, nI a, nI co, nI t, wk, ws, fo, ff, fc, Q.1, Q.2.1, Q.2.2.1, Q.2.2.2, rs', ct')) :
    ∀ (d i n : Nat) (rs' ct' : Nat → Int32), i + d = h0 → d < n → cq_ar rs' ct' 0 (cq_bs jb K V p q h1 i) → cq_pv 0 rs ct rs' ct' → wY_step_19 post n (nI i) cp ph nw jn (nI m) (nI a) (nI co) (nI t) wk ws fo ff fc hd ts ks vs rs' ct' := by
  intro d
  induction d with
  | zero =>
    intro i n rs' ct' hi hn hB hv
    obtain ⟨n, rfl⟩ : ∃ m, n = m + 1 := ⟨n - 1, by omega⟩
    have hi' : i = h0 := by omega
    subst hi'
    rw [← eB] at hB
    have bB : ∀ x, x ∈ B → cq_B x := by rw [eB]; exact cq_bsB (fun i => (hK i).2) (fun i => (hV i).2) jb p q h1 _
    have v1 : cq_pv 1 rs' ct' rs' (upd ct' 1 0) := cq_pv0
    have hB1 := v1 0 B (by decide) hB
    have hR1 := v1 2 R (by decide) (hv 2 R (by decide) hR)
    have lB := hB.2.2
    rw [wY_step_19]
    refine br_t (by rw [hh0]; exact nI_le (Nat.le_refl _) (by omega)) (nm_e ?_)
    by_cases ea : a = 0
    · refine br_t (by rw [ea]; rfl) ?_
      refine y_cop (f := 0) (t := 1) (by decide) (by decide) (by decide) hB1 (fun rs2 ct2 h2 v2 => ⟨B.length + 1, ?_⟩)
      have eS' : S = cq_so (B.map (cq_pr m)) := by
        rw [eS]; unfold cq_nx cq_n0; rw [if_pos ea]
      exact y_266 hh0 h012 hh h12 hm7 ht1 ht3 h2 (fun x hx => (bB x hx).1) (v2 2 R (by decide) hR1) sR bR hQ eS' eO kf B.length 0 _ rs2 (by omega) (by omega) (fun j hj => absurd hj (Nat.not_lt_zero j)) (fun j _ hj => cq_arY h2 hj) cq_pvr
    · refine br_f (nI_ne0 (by omega) (by omega)) ⟨17, ?_⟩
      exact y_165 hh0 h012 hh h12 ha ea hco hm7 ht1 ht3 hB1 bB hR1 sR bR hQ eS eO kf 16 0 17 rs' (upd ct' 1 0) (by omega) (by omega) cq_ar0 cq_pvr
  | succ d ih =>
    intro i n rs' ct' hi hn hB hv
    obtain ⟨n, rfl⟩ : ∃ m, n = m + 1 := ⟨n - 1, by omega⟩
    have hlt : ¬ hd 0 ≤ nI i := by rw [hh0]; exact nI_ge (by omega) (by omega)
    have c1 : (nI i).toNatClampNeg = i := nI_clamp (by omega)
    have w1 : vp_in (nI i) 24 := vp_in_nI (by omega) (by omega)
    have b2 := (hK i).2
    have b3 := (hV i).2
    have hl := cq_bsl jb K V p q h12 i
    rw [wY_step_19]
    refine br_f hlt (y_pass (s := 0) (p := i) (by omega) (by omega) (by omega) ho' hf' (fun hpt => ?_) (fun hpf => ?_))
    · have hpi : p i = true := (hp i).symm.trans hpt
      refine br_f (by decide) ?_
      rw [c1, (hK i).1, (hV i).1]
      refine ⟨w1, nm_e ⟨w1, nm_e ?_⟩⟩
      by_cases ej : jn = 0
      · have eb : cq_bs jb K V p q h1 (i + 1) = cq_bs jb K V p q h1 i ++ [cq_pk (K i) (V i) 0] := by
          rw [cq_bs, cq_rw, if_pos hpi, hj0 ej, if_neg (by decide)]
        refine br_t ej ?_
        refine y_put (t := 0) (x := cq_pk (K i) (V i) 0) (by decide) hB (by omega) (by rw [cq_k0 (by omega) (by omega)]) (by rw [cq_k1 (by omega) (by omega)]) (by rw [cq_k2 (by omega)]; rfl) (fun rs2 ct2 h2 v2 => nm_r (nI_1 i) ?_)
        exact ih (i + 1) n rs2 ct2 (by omega) (by omega) (by rw [eb]; exact h2) (cq_pvt hv v2)
      · have eb : cq_bs jb K V p q h1 (i + 1) = cq_bs jb K V p q h1 i ++ cq_in K V q i h1 := by
          rw [cq_bs, cq_rw, if_pos hpi, hj1 ej, if_pos rfl]
        refine br_f ej ⟨h1 + 1, ?_⟩
        exact y_76 (L := cq_bs jb K V p q h1 i) hK hV hh h12 ho hf hq (by omega) (fun rs2 ct2 h2 v2 => ih (i + 1) n rs2 ct2 (by omega) (by omega) (by rw [eb]; exact h2) (cq_pvt hv v2)) h1 0 (h1 + 1) rs' ct' (by omega) (by omega) (by rw [cq_in, List.append_nil]; exact hB) cq_pvr
    · have hpi : p i = false := (hp i).symm.trans hpf
      have eb : cq_bs jb K V p q h1 (i + 1) = cq_bs jb K V p q h1 i := by
        rw [cq_bs, cq_rw, if_neg (by rw [hpi]; decide), List.append_nil]
      exact br_t rfl (nm_r (nI_1 i) (ih (i + 1) n rs' ct' (by omega) (by omega) (by rw [eb]; exact hB) hv))
theorem y_step {post : Int32 → SY → Prop} {cp ph nw jn : Int32} {wk ws fo ff fc hd ts ks vs rs ct : Nat → Int32} {K V : Nat → Nat} {p q : Nat → Bool} {jb : Bool} {h0 h1 m t a co o o' : Nat} {R S O : List Nat} {Q : (Nat → Int32) × (Nat → Int32) × (Nat → Int32) × (Nat → Int32)} (hph : ph = 1) (hK : ∀ j, ks j = nI (K j) ∧ K j < 16) (hV : ∀ j, vs j = nI (V j) ∧ V j < 256) (hh0 : hd 0 = nI h0) (h012 : h0 ≤ 12) (hh : hd 1 = nI h1) (h12 : h1 ≤ 12) (ho : o < 5) (hf : fo 1 = nI o) (ho' : o' < 5) (hf' : fo 0 = nI o') (hp : ∀ j, cq_ps (fo 0) (ff 0) (fc 0) (ks j) (vs j) = p j) (hq : ∀ j, cq_ps (fo 1) (ff 1) (fc 1) (ks (12 + j)) (vs (12 + j)) = q j) (hj0 : jn = 0 → jb = false) (hj1 : ¬ jn = 0 → jb = true)
    (ha : a < 3) (hco : co < 3) (hm7 : m ≤ 7) (ht1 : 1 ≤ t) (ht3 : t ≤ 3) (hR : cq_ar rs ct 2 R) (sR : R.Pairwise (· ≤ ·)) (bR : ∀ x, x ∈ R → x < 268435456) (hQ : Q = cq_xp 1 wk ws (nw + 1) (cq_xp 0 wk ws (nw + 1) (hd, ts, ks, vs))) (eS : S = cq_nx a co m (cq_bs jb K V p q h1 h0)) (eO : O = cq_ou t S R)
    (kf : ∀ rs' ct', cq_ar rs' ct' 2 S → cq_ar rs' ct' 3 O → post (nI O.length) (cp, ph, nw + 1, jn, nI m, nI a, nI co, nI t, wk, ws, fo, ff, fc, Q.1, Q.2.1, Q.2.2.1, Q.2.2.2, rs', ct')) : wpY_step post (cp, ph, nw, jn, nI m, nI a, nI co, nI t, wk, ws, fo, ff, fc, hd, ts, ks, vs, rs, ct) := by
  have v0 : cq_pv 0 rs ct rs (upd ct 0 0) := cq_pv0
  unfold wpY_step
  refine br_t hph (nm_e ⟨h0 + 1, ?_⟩)
  exact y_19 hK hV hh0 h012 hh h12 ho hf ho' hf' hp hq hj0 hj1 ha hco hm7 ht1 ht3 rfl (v0 2 R (by decide) hR) sR bR hQ eS eO kf h0 0 (h0 + 1) rs (upd ct 0 0) (by omega) (by omega) cq_ar0 cq_pvr
end
section
/-! invariants under the small changes -/
theorem cq_cfU {c s h' : Nat} {wk ws fo hd : Nat → Int32} (h : cq_cf c wk ws fo hd) (hh : h' ≤ c) : cq_cf c wk ws fo (upd hd s (nI h')) := by
  intro s' hs'
  obtain ⟨a, b, d, e⟩ := h s' hs'
  refine ⟨a, b, d, ?_⟩
  by_cases e' : s' = s
  · exact ⟨h', hh, by rw [e', pk_us]⟩
  · obtain ⟨x, hx, ex⟩ := e
    exact ⟨x, hx, by rw [pk_un e']; exact ex⟩
theorem cq_cfW {c s z : Nat} {kd : Int32} {wk ws fo hd : Nat → Int32} (h : cq_cf c wk ws fo hd) (hkd : kd = 1 ∨ kd = 2) (h1 : 1 ≤ z) (h2 : z < 2 ^ 31) (h3 : kd = 2 → z ≤ c) : cq_cf c (upd wk s kd) (upd ws s (nI z)) fo hd := by
  intro s' hs'
  obtain ⟨a, b, d, e⟩ := h s' hs'
  by_cases e' : s' = s
  · subst e'
    rw [pk_us, pk_us]
    exact ⟨hkd, ⟨z, h1, h2, rfl, h3⟩, d, e⟩
  · rw [pk_un e', pk_un e']
    exact ⟨a, b, d, e⟩
theorem cq_cfF {c s o : Nat} {wk ws fo hd : Nat → Int32} (h : cq_cf c wk ws fo hd) (ho : o < 5) : cq_cf c wk ws (upd fo s (nI o)) hd := by
  intro s' hs'
  obtain ⟨a, b, d, e⟩ := h s' hs'
  refine ⟨a, b, ?_, e⟩
  by_cases e' : s' = s
  · exact ⟨o, ho, by rw [e', pk_us]⟩
  · obtain ⟨x, hx, ex⟩ := d
    exact ⟨x, hx, by rw [pk_un e']; exact ex⟩
theorem cq_cfD {c : Nat} {wk ws fo hd : Nat → Int32} (h1 : 2 ≤ c) (h2 : c ≤ 12) : cq_cf c (upd (upd wk 0 2) 1 2) (upd (upd ws 0 (nI c)) 1 (nI c)) (upd (upd fo 0 0) 1 0) (upd (upd hd 0 0) 1 0) := by
  have g : ∀ (f : Nat → Int32) (x : Int32) (s : Nat), s < 2 → upd (upd f 0 x) 1 x s = x := by
    intro f x s hs
    by_cases e : s = 1
    · rw [e, pk_us]
    · rw [pk_un e, show s = 0 by omega, pk_us]
  intro s hs
  rw [g _ _ s hs, g _ _ s hs, g _ _ s hs, g _ _ s hs]
  exact ⟨Or.inr rfl, ⟨c, by omega, by omega, rfl, fun _ => Nat.le_refl _⟩, ⟨0, by decide, rfl⟩, ⟨0, by omega, rfl⟩⟩
theorem cq_cfH {c : Nat} {wk ws fo hd : Nat → Int32} (h : cq_cf c wk ws fo hd) : cq_cf c wk ws fo (upd (upd hd 0 0) 1 0) :=
  cq_cfU (h' := 0) (cq_cfU (h' := 0) h (Nat.zero_le _)) (Nat.zero_le _)
theorem cq_lsE {ra oa rs ct : Nat → Int32} : cq_ls ra oa rs (upd (upd (upd (upd ct 0 0) 1 0) 2 0) 3 0) [] [] := by
  refine ⟨cq_nil _ _, cq_nil _ _, ⟨cq_nil _ _, ?_, Nat.zero_le _⟩, ⟨cq_nil _ _, ?_, Nat.zero_le _⟩, List.Pairwise.nil, fun x hx => absurd hx (List.not_mem_nil), fun x hx => absurd hx (List.not_mem_nil)⟩
  · rw [pk_un (by decide), pk_us]; exact nI_0.symm
  · rw [pk_us]; exact nI_0.symm
theorem cq_xpI {c s : Nat} {wk ws fo : Nat → Int32} {nw : Int32} {q : (Nat → Int32) × (Nat → Int32) × (Nat → Int32) × (Nat → Int32)} (hs : s < 2) (hc : c ≤ 12) (h : cq_cf c wk ws fo q.1) (hk : cq_ok 16 q.2.2.1) (hv : cq_ok 256 q.2.2.2) : cq_cf c wk ws fo (cq_xp s wk ws nw q).1 ∧ cq_ok 16 (cq_xp s wk ws nw q).2.2.1 ∧ cq_ok 256 (cq_xp s wk ws nw q).2.2.2 := by
  unfold cq_xp
  split
  · obtain ⟨_, _, _, x, hx, ex⟩ := h s hs
    have cx : (q.1 s).toNatClampNeg = x := by rw [ex]; exact nI_clamp (by omega)
    have hl := cq_exl (s * 12) (nw - ws s) q.2.1 q.2.2.1 q.2.2.2 x
    have hkv := cq_exk (b := s * 12) (lim := nw - ws s) (t := q.2.1) hk hv x
    dsimp only
    rw [cx]
    exact ⟨cq_cfU h (by omega), hkv.1, hkv.2⟩
  · exact ⟨h, hk, hv⟩
/-! defaults -/
theorem x_def1 {post : SX → Prop} {cp ph nw jn pj ag ac op bc nc rc oc : Int32} {wk ws fo ff fc hd ts ks vs ba na ra oa : Nat → Int32} {s n : Nat} (hs : s < 2) (h : wX_restoreDefaults_7 post cp ph nw jn pj ag ac op bc nc rc oc n (nI (s + 1)) (upd wk s 2) (upd ws s cp) (upd fo s 0) (upd ff s 0) (upd fc s 0) hd ts ks vs ba na ra oa) : wX_restoreDefaults_7 post cp ph nw jn pj ag ac op bc nc rc oc (n + 1) (nI s) wk ws fo ff fc hd ts ks vs ba na ra oa := by
  have c1 : (nI s).toNatClampNeg = s := nI_clamp (by omega)
  have w1 : vp_in (nI s) 2 := vp_in_nI hs (by omega)
  rw [wX_restoreDefaults_7]
  refine br_f (nI_ge (b := 2) hs (by decide)) ⟨w1, ?_⟩
  rw [c1]
  exact nm_e ⟨w1, nm_e ⟨w1, nm_e ⟨w1, nm_e ⟨w1, nm_e (nm_r (nI_1 s) h)⟩⟩⟩⟩
theorem x_clr {post : SX → Prop} {cp ph nw jn pj ag ac op bc nc rc oc : Int32} {wk ws fo ff fc hd ts ks vs ba na ra oa : Nat → Int32} (h : post (cp, ph, 0, jn, pj, ag, ac, op, bc, nc, 0, 0, wk, ws, fo, ff, fc, upd (upd hd 0 0) 1 0, ts, ks, vs, ba, na, ra, oa)) : wpX_clearRun post (cp, ph, nw, jn, pj, ag, ac, op, bc, nc, rc, oc, wk, ws, fo, ff, fc, hd, ts, ks, vs, ba, na, ra, oa) := by
  unfold wpX_clearRun
  exact nm_e (nm_e h)
theorem x_def {post : SX → Prop} {cp ph nw jn pj ag ac op bc nc rc oc : Int32} {wk ws fo ff fc hd ts ks vs ba na ra oa : Nat → Int32} (h : post (cp, 0, 0, 0, 7, 0, 0, 1, bc, nc, 0, 0, upd (upd wk 0 2) 1 2, upd (upd ws 0 cp) 1 cp, upd (upd fo 0 0) 1 0, upd (upd ff 0 0) 1 0, upd (upd fc 0 0) 1 0, upd (upd hd 0 0) 1 0, ts, ks, vs, ba, na, ra, oa)) : wpX_restoreDefaults post (cp, ph, nw, jn, pj, ag, ac, op, bc, nc, rc, oc, wk, ws, fo, ff, fc, hd, ts, ks, vs, ba, na, ra, oa) := by
  unfold wpX_restoreDefaults
  refine ⟨3, x_def1 (s := 0) (by decide) (x_def1 (s := 1) (by decide) ?_)⟩
  rw [wX_restoreDefaults_7]
  exact br_t (by decide) (x_clr h)
theorem y_def1 {post : SY → Prop} {cp ph nw jn pj ag ac op : Int32} {wk ws fo ff fc hd ts ks vs rs ct : Nat → Int32} {s n : Nat} (hs : s < 2) (h : wY_defaults_38 post cp ph nw jn pj ag ac op n (nI (s + 1)) (upd wk s 2) (upd ws s cp) (upd fo s 0) (upd ff s 0) (upd fc s 0) (upd hd s 0) ts ks vs rs ct) : wY_defaults_38 post cp ph nw jn pj ag ac op (n + 1) (nI s) wk ws fo ff fc hd ts ks vs rs ct := by
  have c1 : (nI s).toNatClampNeg = s := nI_clamp (by omega)
  have w1 : vp_in (nI s) 2 := vp_in_nI hs (by omega)
  rw [wY_defaults_38]
  refine br_f (nI_ge (b := 2) hs (by decide)) ⟨w1, ?_⟩
  rw [c1]
  exact nm_e ⟨w1, nm_e ⟨w1, nm_e ⟨w1, nm_e ⟨w1, nm_e ⟨w1, nm_e (nm_r (nI_1 s) h)⟩⟩⟩⟩⟩
theorem y_def2 {post : SY → Prop} {cp ph nw jn pj ag ac op : Int32} {wk ws fo ff fc hd ts ks vs rs ct : Nat → Int32} {s n : Nat} (hs : s < 4) (h : wY_defaults_96 post cp ph nw jn pj ag ac op n (nI (s + 1)) wk ws fo ff fc hd ts ks vs rs (upd ct s 0)) : wY_defaults_96 post cp ph nw jn pj ag ac op (n + 1) (nI s) wk ws fo ff fc hd ts ks vs rs ct := by
  have c1 : (nI s).toNatClampNeg = s := nI_clamp (by omega)
  have w1 : vp_in (nI s) 4 := vp_in_nI hs (by omega)
  rw [wY_defaults_96]
  refine br_f (nI_ge (b := 4) hs (by decide)) ⟨w1, ?_⟩
  rw [c1]
  exact nm_e (nm_r (nI_1 s) h)
theorem y_def {post : SY → Prop} {cp ph nw jn pj ag ac op : Int32} {wk ws fo ff fc hd ts ks vs rs ct : Nat → Int32} (h : post (cp, 0, 0, 0, 7, 0, 0, 1, upd (upd wk 0 2) 1 2, upd (upd ws 0 cp) 1 cp, upd (upd fo 0 0) 1 0, upd (upd ff 0 0) 1 0, upd (upd fc 0 0) 1 0, upd (upd hd 0 0) 1 0, ts, ks, vs, rs, upd (upd (upd (upd ct 0 0) 1 0) 2 0) 3 0)) : wpY_defaults post (cp, ph, nw, jn, pj, ag, ac, op, wk, ws, fo, ff, fc, hd, ts, ks, vs, rs, ct) := by
  unfold wpY_defaults
  refine ⟨3, y_def1 (s := 0) (by decide) (y_def1 (s := 1) (by decide) ?_)⟩
  rw [wY_defaults_38]
  refine br_t (by decide) ⟨5, y_def2 (s := 0) (by decide) (y_def2 (s := 1) (by decide) (y_def2 (s := 2) (by decide) (y_def2 (s := 3) (by decide) ?_)))⟩
  rw [wY_defaults_96]
  exact br_t (by decide) h
theorem y_com1 {post : Int32 → SY → Prop} {cp ph nw jn pj ag ac op : Int32} {wk ws fo ff fc hd ts ks vs rs ct : Nat → Int32} {s n : Nat} (hs : s < 4) (h : wY_compile_61 post cp ph nw jn pj ag ac op n (nI (s + 1)) wk ws fo ff fc hd ts ks vs rs (upd ct s 0)) : wY_compile_61 post cp ph nw jn pj ag ac op (n + 1) (nI s) wk ws fo ff fc hd ts ks vs rs ct := by
  have c1 : (nI s).toNatClampNeg = s := nI_clamp (by omega)
  have w1 : vp_in (nI s) 4 := vp_in_nI hs (by omega)
  rw [wY_compile_61]
  refine br_f (nI_ge (b := 4) hs (by decide)) ⟨w1, ?_⟩
  rw [c1]
  exact nm_e (nm_r (nI_1 s) h)
theorem y_com {post : Int32 → SY → Prop} {cp ph nw jn pj ag ac op : Int32} {wk ws fo ff fc hd ts ks vs rs ct : Nat → Int32} (h : post 0 (cp, 1, 0, jn, pj, ag, ac, op, wk, ws, fo, ff, fc, upd (upd hd 0 0) 1 0, ts, ks, vs, rs, upd (upd (upd (upd ct 0 0) 1 0) 2 0) 3 0)) : wY_compile_35 post cp ph nw jn pj ag ac op wk ws fo ff fc hd ts ks vs rs ct := by
  unfold wY_compile_35
  refine nm_e (nm_e ⟨5, y_com1 (s := 0) (by decide) (y_com1 (s := 1) (by decide) (y_com1 (s := 2) (by decide) (y_com1 (s := 3) (by decide) ?_)))⟩)
  rw [wY_compile_61]
  exact br_t (by decide) h
/-! a tuple arrives: the component -/
theorem x_remL {post : SX → Prop} {cp ph nw jn pj ag ac op bc nc rc oc : Int32} {wk ws fo ff fc hd ts ks vs ba na ra oa : Nat → Int32} {s h : Nat} (hs : s < 2) (hh : hd s = nI h) (h0 : 1 ≤ h) (h12 : h ≤ 12) (K : post (cp, ph, nw, jn, pj, ag, ac, op, bc, nc, rc, oc, wk, ws, fo, ff, fc, upd hd s (nI (h - 1)), cq_rm (s * 12) ts (h - 1), cq_rm (s * 12) ks (h - 1), cq_rm (s * 12) vs (h - 1), ba, na, ra, oa)) :
    ∀ (d j n : Nat), j + 1 + d = h → d < n → wX_removeOldest_2 post (nI s) n (nI (j + 1)) cp ph nw jn pj ag ac op bc nc rc oc wk ws fo ff fc hd (cq_rm (s * 12) ts j) (cq_rm (s * 12) ks j) (cq_rm (s * 12) vs j) ba na ra oa := by
  have c1 : (nI s).toNatClampNeg = s := nI_clamp (by omega)
  have w1 : vp_in (nI s) 2 := vp_in_nI hs (by omega)
  intro d
  induction d with
  | zero =>
    intro j n hj hn
    obtain ⟨n, rfl⟩ : ∃ m, n = m + 1 := ⟨n - 1, by omega⟩
    have hj' : j = h - 1 := by omega
    subst hj'
    have e1 : nI h - 1 = nI (h - 1) := pk_sub (b := 1) h0
    rw [wX_removeOldest_2]
    refine ⟨w1, ?_⟩
    rw [c1, hh, e1]
    exact br_t (nI_le (by omega) (by omega)) ⟨w1, w1, nm_e K⟩
  | succ d ih =>
    intro j n hj hn
    obtain ⟨n, rfl⟩ : ∃ m, n = m + 1 := ⟨n - 1, by omega⟩
    rw [wX_removeOldest_2]
    refine ⟨w1, ?_⟩
    rw [c1, hh, nI_pred]
    exact br_f (nI_ge (by omega) (by omega)) (x_move (by omega) (by omega) (nm_r (nI_1 (j + 1)) (ih (j + 1) n (by omega) (by omega))))
theorem x_rem {post : SX → Prop} {cp ph nw jn pj ag ac op bc nc rc oc : Int32} {wk ws fo ff fc hd ts ks vs ba na ra oa : Nat → Int32} {s h : Nat} (hs : s < 2) (hh : hd s = nI h) (h0 : 1 ≤ h) (h12 : h ≤ 12) (K : post (cp, ph, nw, jn, pj, ag, ac, op, bc, nc, rc, oc, wk, ws, fo, ff, fc, upd hd s (nI (h - 1)), cq_rm (s * 12) ts (h - 1), cq_rm (s * 12) ks (h - 1), cq_rm (s * 12) vs (h - 1), ba, na, ra, oa)) : wpX_removeOldest post (cp, ph, nw, jn, pj, ag, ac, op, bc, nc, rc, oc, wk, ws, fo, ff, fc, hd, ts, ks, vs, ba, na, ra, oa) (nI s) := by
  unfold wpX_removeOldest
  exact ⟨h + 1, x_remL hs hh h0 h12 K (h - 1) 0 (h + 1) (by omega) (by omega)⟩
theorem x_app {post : SX → Prop} {cp ph nw jn pj ag ac op bc nc rc oc : Int32} {wk ws fo ff fc hd ts ks vs ba na ra oa : Nat → Int32} {s h : Nat} {k v : Int32} (hs : s < 2) (hh : hd s = nI h) (h12 : h < 12) (K : post (cp, ph, nw, jn, pj, ag, ac, op, bc, nc, rc, oc, wk, ws, fo, ff, fc, upd hd s (nI (h + 1)), upd ts (s * 12 + h) nw, upd ks (s * 12 + h) k, upd vs (s * 12 + h) v, ba, na, ra, oa)) : wpX_append post (cp, ph, nw, jn, pj, ag, ac, op, bc, nc, rc, oc, wk, ws, fo, ff, fc, hd, ts, ks, vs, ba, na, ra, oa) (nI s) k v := by
  have c1 : (nI s).toNatClampNeg = s := nI_clamp (by omega)
  have w1 : vp_in (nI s) 2 := vp_in_nI hs (by omega)
  have c2 : (nI (s * 12 + h)).toNatClampNeg = s * 12 + h := nI_clamp (by omega)
  have w2 : vp_in (nI (s * 12 + h)) 24 := vp_in_nI (by omega) (by omega)
  unfold wpX_append
  dsimp only
  rw [c1, hh]
  refine ⟨w1, x_pl ⟨w2, ?_⟩⟩
  rw [c2]
  exact nm_e ⟨w2, nm_e ⟨w2, nm_e ⟨w1, w1, nm_r (by rw [nI_1]) K⟩⟩⟩
/-! a tuple arrives: the reference -/
theorem y_225 {post : Int32 → SY → Prop} {cp ph nw jn pj ag ac op : Int32} {wk ws fo ff fc hd ts ks vs rs ct : Nat → Int32} {s h : Nat} {k v : Int32} (hs : s < 2) (hh : hd s = nI h) (h12 : h < 12) (K : post 0 (cp, ph, nw, jn, pj, ag, ac, op, wk, ws, fo, ff, fc, upd hd s (nI (h + 1)), upd ts (s * 12 + h) nw, upd ks (s * 12 + h) k, upd vs (s * 12 + h) v, rs, ct)) : wY_arrive_225 post (nI s) k v (nI (s * 12)) cp ph nw jn pj ag ac op wk ws fo ff fc hd ts ks vs rs ct := by
  have c1 : (nI s).toNatClampNeg = s := nI_clamp (by omega)
  have w1 : vp_in (nI s) 2 := vp_in_nI hs (by omega)
  have c2 : (nI (s * 12 + h)).toNatClampNeg = s * 12 + h := nI_clamp (by omega)
  have w2 : vp_in (nI (s * 12 + h)) 24 := vp_in_nI (by omega) (by omega)
  unfold wY_arrive_225
  rw [c1]
  refine ⟨w1, nm_r hh (br_t (nI_lt (b := 12) h12 (by decide)) ?_)⟩
  rw [nI_add, c2]
  exact ⟨w2, nm_e ⟨w2, nm_e ⟨w2, nm_e ⟨w1, nm_r (by rw [nI_1]) K⟩⟩⟩⟩
theorem y_121 {post : Int32 → SY → Prop} {cp ph nw jn pj ag ac op : Int32} {wk ws fo ff fc hd ts ks vs rs ct : Nat → Int32} {s h : Nat} {k v : Int32} (hs : s < 2) (hh : hd s = nI h) (h0 : 1 ≤ h) (h12 : h ≤ 12) (K : wY_arrive_225 post (nI s) k v (nI (s * 12)) cp ph nw jn pj ag ac op wk ws fo ff fc (upd hd s (nI (h - 1))) (cq_rm (s * 12) ts (h - 1)) (cq_rm (s * 12) ks (h - 1)) (cq_rm (s * 12) vs (h - 1)) rs ct) :
    ∀ (d j n : Nat), j + 1 + d = h → d < n → wY_arrive_121 post (nI s) k v (nI (s * 12)) cp ph nw jn pj ag ac op n (nI (j + 1)) wk ws fo ff fc hd (cq_rm (s * 12) ts j) (cq_rm (s * 12) ks j) (cq_rm (s * 12) vs j) rs ct := by
  have c1 : (nI s).toNatClampNeg = s := nI_clamp (by omega)
  have w1 : vp_in (nI s) 2 := vp_in_nI hs (by omega)
  intro d
  induction d with
  | zero =>
    intro j n hj hn
    obtain ⟨n, rfl⟩ : ∃ m, n = m + 1 := ⟨n - 1, by omega⟩
    have hj' : j = h - 1 := by omega
    subst hj'
    have e1 : nI h - 1 = nI (h - 1) := pk_sub (b := 1) h0
    rw [wY_arrive_121]
    refine ⟨w1, ?_⟩
    rw [c1, hh]
    refine br_t (nI_le (by omega) (by omega)) ?_
    unfold wY_arrive_211
    rw [c1, hh, e1]
    exact ⟨w1, w1, nm_e K⟩
  | succ d ih =>
    intro j n hj hn
    obtain ⟨n, rfl⟩ : ∃ m, n = m + 1 := ⟨n - 1, by omega⟩
    have e1 : nI (s * 12 + (j + 1)) - 1 = nI (s * 12 + j) := nI_pred (s * 12 + j)
    have c2 : (nI (s * 12 + (j + 1))).toNatClampNeg = s * 12 + (j + 1) := nI_clamp (by omega)
    have c3 : (nI (s * 12 + j)).toNatClampNeg = s * 12 + j := nI_clamp (by omega)
    have w2 : vp_in (nI (s * 12 + (j + 1))) 24 := vp_in_nI (by omega) (by omega)
    have w3 : vp_in (nI (s * 12 + j)) 24 := vp_in_nI (by omega) (by omega)
    have H := ih (j + 1) n (by omega) (by omega)
    rw [wY_arrive_121]
    refine ⟨w1, ?_⟩
    rw [c1, hh]
    refine br_f (nI_ge (by omega) (by omega)) (br_f (nI_ge (b := 12) (by omega) (by decide)) ?_)
    rw [nI_add, e1, c2, c3]
    exact ⟨w2, w3, nm_e ⟨w2, w3, nm_e ⟨w2, w3, nm_e (nm_r (nI_1 (j + 1)) H)⟩⟩⟩
end
section
/-! the statements owed, but for the step, info, row: what is refused, what is set -/
theorem i_up {k : Nat} {u : SX} {v : SY} (h : i_Rel k u v) : i_Rel (k + 5) u v := h
theorem cq_Rd {k c : Nat} {bc nc : Int32} {wk ws fo ff fc hd ts ks vs ba na ra oa : Nat → Int32} {rs ct : Nat → Int32} (h1 : 2 ≤ c) (h2 : c ≤ 12) (hk : cq_ok 16 ks) (hv : cq_ok 256 vs) : i_Rel k (nI c, 0, 0, 0, 7, 0, 0, 1, bc, nc, 0, 0, upd (upd wk 0 2) 1 2, upd (upd ws 0 (nI c)) 1 (nI c), upd (upd fo 0 0) 1 0, upd (upd ff 0 0) 1 0, upd (upd fc 0 0) 1 0, upd (upd hd 0 0) 1 0, ts, ks, vs, ba, na, ra, oa) (nI c, 0, 0, 0, 7, 0, 0, 1, upd (upd wk 0 2) 1 2, upd (upd ws 0 (nI c)) 1 (nI c), upd (upd fo 0 0) 1 0, upd (upd ff 0 0) 1 0, upd (upd fc 0 0) 1 0, upd (upd hd 0 0) 1 0, ts, ks, vs, rs, upd (upd (upd (upd ct 0 0) 1 0) 2 0) 3 0) :=
  cq_R (c := c) (m := 7) (a := 0) (co := 0) (o := 1) (R := []) (O := []) rfl rfl rfl rfl rfl rfl rfl h1 h2 (by decide) (by decide) (by decide) (by decide) (by decide) (by decide) (cq_cfD h1 h2) hk hv cq_lsE
theorem x_iss {post : Int32 → Prop} {x : Int32} (h1 : ∀ s, s < 2 → x = nI s → post 1) (h0 : ¬ x = 0 → ¬ x = 1 → post 0) : wpX_isStream post x := by
  unfold wpX_isStream
  exact br_c (fun e => h1 0 (by decide) e) (fun n => br_c (fun e => h1 1 (by decide) e) (fun n2 => h0 n n2))
theorem cq_is {A B : Prop} {s : Nat} (hs : s < 2) (a : A) : (nI s = 0 → A) ∧ (¬ nI s = 0 → ((nI s = 1 → A) ∧ (¬ nI s = 1 → B))) := by
  have hm : s = 0 ∨ s = 1 := by omega
  rcases hm with rfl | rfl
  · exact br_t (by decide) a
  · exact br_f (by decide) (br_t (by decide) a)
theorem cq_rng {x : Int32} {lo hi : Nat} (hlo : lo < 2 ^ 31) (hhi : hi < 2 ^ 31) (h1 : ¬ x < nI lo) (h2 : x ≤ nI hi) : ∃ j, lo ≤ j ∧ j ≤ hi ∧ x = nI j := by
  have n0 : ¬ x < 0 := by
    intro z
    apply h1
    rw [Int32.lt_iff_toInt_lt] at z ⊢
    rw [nI_toInt hlo]
    have : (0 : Int32).toInt = 0 := by decide
    omega
  obtain ⟨j, hj, rfl⟩ := nI_of n0
  rw [nI_ltI hj hlo] at h1
  rw [nI_leI hj hhi] at h2
  exact ⟨j, by omega, h2, rfl⟩
theorem cq_st {s : Nat} {hd : Nat → Int32} {c : Nat} {wk ws fo : Nat → Int32} (h9 : cq_cf c wk ws fo hd) (hs : s < 2) : ∃ h, h ≤ c ∧ hd s = nI h := (h9 s hs).2.2.2
theorem i_vc0 (k0 : Int32) : wpX_init (fun u => wpY_init (fun v => i_Rel 1 u v) k0) k0 := by
  unfold wpX_init wpX_clampedCap
  refine br_c (fun l => br_c (fun g => ?_) (fun g => ?_)) (fun l => ?_)
  · obtain ⟨c, hc1, hc2, rfl⟩ := cq_rng (lo := 2) (hi := 12) (by decide) (by decide) (Int32.not_lt.mpr l) g
    refine x_def ?_
    exact br_t l (br_t g (y_def (cq_Rd hc1 hc2 (cq_ok0 (by decide)) (cq_ok0 (by decide)))))
  · refine x_def ?_
    exact br_t l (br_f g (y_def (cq_Rd (c := 12) (by decide) (by decide) (cq_ok0 (by decide)) (cq_ok0 (by decide)))))
  · refine x_def ?_
    exact br_f l (br_t (by decide) (y_def (cq_Rd (c := 2) (by decide) (by decide) (cq_ok0 (by decide)) (cq_ok0 (by decide)))))
theorem i_vc_reset {k : Nat} {u : SX} {v : SY} (I : i_Rel k u v) (hk : k + 5 ≤ 2561) : wpX_reset (fun r u' => wpY_reset (fun r' v' => r' = r ∧ i_Rel (k + 5) u' v') v) u := by
  have J : i_Rel (k + 5) u v := I
  obtain ⟨c, m, a, co, t, R, O, ph, nw, jn, bc, nc, wk, ws, fo, ff, fc, hd, ts, ks, vs, ba, na, ra, oa, rs, ct, rfl, rfl, h1, h2, h3, h4, h5, h6, h7, h8, h9, h10, h11, h12⟩ := I
  unfold wpX_reset
  dsimp only
  refine x_def ?_
  dsimp only
  unfold wpY_reset
  dsimp only
  exact y_def ⟨rfl, cq_Rd h1 h2 h10 h11⟩
theorem i_vc_setWindow {k : Nat} {u : SX} {v : SY} (I : i_Rel k u v) (hk : k + 5 ≤ 2561) (v1 : Int32) (v2 : Int32) (v3 : Int32) : wpX_setWindow (fun r u' => wpY_setWindow (fun r' v' => r' = r ∧ i_Rel (k + 5) u' v') v v1 v2 v3) u v1 v2 v3 := by
  have J : i_Rel (k + 5) u v := I
  obtain ⟨c, m, a, co, t, R, O, ph, nw, jn, bc, nc, wk, ws, fo, ff, fc, hd, ts, ks, vs, ba, na, ra, oa, rs, ct, rfl, rfl, h1, h2, h3, h4, h5, h6, h7, h8, h9, h10, h11, h12⟩ := I
  unfold wpX_setWindow
  by_cases hp : ph = 0
  · refine br_t hp (x_iss (fun s hs e => ?_) (fun n0 n1 => ?_))
    · subst e
      have c1 : (nI s).toNatClampNeg = s := nI_clamp (by omega)
      have w1 : vp_in (nI s) 2 := vp_in_nI hs (by omega)
      refine br_f (by decide) ?_
      by_cases e1 : v2 = 1
      · subst e1
        refine br_t rfl (br_t rfl ?_)
        by_cases l : v3 < 1
        · exact br_t l (br_t hp (cq_is hs (br_t rfl (br_t rfl (br_t l ⟨rfl, J⟩)))))
        · by_cases g : v3 ≤ 64
          · obtain ⟨z, hz1, hz2, rfl⟩ := cq_rng (lo := 1) (hi := 64) (by decide) (by decide) l g
            refine br_f l (br_t g ⟨w1, nm_r (e' := upd wk s 1) (by rw [c1]) ⟨w1, nm_r (e' := upd ws s (nI z)) (by rw [c1]) ?_⟩⟩)
            refine br_t hp (cq_is hs (br_t rfl (br_t rfl (br_f l (br_t g (br_f (by decide) ⟨w1, nm_r (e' := upd wk s 1) (by rw [c1]) ⟨w1, nm_r (e' := upd ws s (nI z)) (by rw [c1]) ⟨rfl, ?_⟩⟩⟩))))))
            exact cq_R rfl rfl rfl rfl rfl rfl rfl h1 h2 h3 h4 h5 h6 h7 h8 (cq_cfW h9 (Or.inl rfl) hz1 (by omega) (fun z => absurd z (by decide))) h10 h11 h12
          · exact br_f l (br_f g (br_t hp (cq_is hs (br_t rfl (br_t rfl (br_f l (br_f g ⟨rfl, J⟩)))))))
      · by_cases e2 : v2 = 2
        · subst e2
          refine br_f e1 (br_t rfl (br_f e1 ?_))
          by_cases l : v3 < 1
          · exact br_t l (br_t hp (cq_is hs (br_f e1 (br_t rfl (br_f e1 (br_t rfl (br_t l ⟨rfl, J⟩)))))))
          · by_cases g : v3 ≤ nI c
            · obtain ⟨z, hz1, hz2, rfl⟩ := cq_rng (lo := 1) (hi := c) (by decide) (by omega) l g
              refine br_f l (br_t g ⟨w1, nm_r (e' := upd wk s 2) (by rw [c1]) ⟨w1, nm_r (e' := upd ws s (nI z)) (by rw [c1]) ?_⟩⟩)
              refine br_t hp (cq_is hs (br_f e1 (br_t rfl (br_f e1 (br_t rfl (br_f l (br_t g ⟨w1, nm_r (e' := upd wk s 2) (by rw [c1]) ⟨w1, nm_r (e' := upd ws s (nI z)) (by rw [c1]) ⟨rfl, ?_⟩⟩⟩)))))))
              exact cq_R rfl rfl rfl rfl rfl rfl rfl h1 h2 h3 h4 h5 h6 h7 h8 (cq_cfW h9 (Or.inr rfl) hz1 (by omega) (fun _ => hz2)) h10 h11 h12
            · exact br_f l (br_f g (br_t hp (cq_is hs (br_f e1 (br_t rfl (br_f e1 (br_t rfl (br_f l (br_f g ⟨rfl, J⟩)))))))))
        · exact br_f e1 (br_f e2 (br_t hp (cq_is hs (br_f e1 (br_f e2 ⟨rfl, J⟩)))))
    · exact br_t rfl (br_t hp (br_f n0 (br_f n1 ⟨rfl, J⟩)))
  · exact br_f hp (br_f hp ⟨rfl, J⟩)
theorem i_vc_setFilter {k : Nat} {u : SX} {v : SY} (I : i_Rel k u v) (hk : k + 5 ≤ 2561) (v1 : Int32) (v2 : Int32) (v3 : Int32) (v4 : Int32) : wpX_setFilter (fun r u' => wpY_setFilter (fun r' v' => r' = r ∧ i_Rel (k + 5) u' v') v v1 v2 v3 v4) u v1 v2 v3 v4 := by
  have J : i_Rel (k + 5) u v := I
  obtain ⟨c, m, a, co, t, R, O, ph, nw, jn, bc, nc, wk, ws, fo, ff, fc, hd, ts, ks, vs, ba, na, ra, oa, rs, ct, rfl, rfl, h1, h2, h3, h4, h5, h6, h7, h8, h9, h10, h11, h12⟩ := I
  unfold wpX_setFilter
  by_cases hp : ph = 0
  · refine br_t hp (x_iss (fun s hs e => ?_) (fun n0 n1 => ?_))
    · subst e
      have c1 : (nI s).toNatClampNeg = s := nI_clamp (by omega)
      have w1 : vp_in (nI s) 2 := vp_in_nI hs (by omega)
      refine br_f (by decide) ?_
      by_cases l : v3 < 0
      · exact br_t l (br_t hp (cq_is hs (br_t l ⟨rfl, J⟩)))
      · by_cases g : v3 ≤ 4
        · obtain ⟨z, hz1, hz2, rfl⟩ := cq_rng (lo := 0) (hi := 4) (by decide) (by decide) l g
          refine br_f l (br_t g ?_)
          by_cases e0 : nI z = 0
          · have ez : z = 0 := by rw [show (0 : Int32) = nI 0 from rfl, nI_eq (by omega) (by omega)] at e0; exact e0
            subst ez
            refine br_t e0 ⟨w1, nm_r (e' := upd fo s (nI 0)) (by rw [c1]) (br_t e0 ⟨w1, nm_r (e' := upd ff s 0) (by rw [c1]) (br_t e0 ⟨w1, nm_r (e' := upd fc s 0) (by rw [c1]) ?_⟩)⟩)⟩
            refine br_t hp (cq_is hs (br_f l (br_t g (br_t e0 (br_t e0 ⟨w1, nm_r (e' := upd fo s (nI 0)) (by rw [c1]; rfl) ⟨w1, nm_r (e' := upd ff s 0) (by rw [c1]) ⟨w1, nm_r (e' := upd fc s 0) (by rw [c1]) ⟨rfl, ?_⟩⟩⟩⟩)))))
            exact cq_R rfl rfl rfl rfl rfl rfl rfl h1 h2 h3 h4 h5 h6 h7 h8 (cq_cfF h9 (by decide)) h10 h11 h12
          · refine br_f e0 ?_
            have fin : wX_setFilter_47 (fun r u' => wpY_setFilter (fun r' v' => r' = r ∧ i_Rel (k + 5) u' v') (nI c, ph, nw, jn, nI m, nI a, nI co, nI t, wk, ws, fo, ff, fc, hd, ts, ks, vs, rs, ct) (nI s) v2 (nI z) v4) (nI s) v2 (nI z) v4 (nI c) ph nw jn (nI m) (nI a) (nI co) (nI t) bc nc (nI R.length) (nI O.length) wk ws fo ff fc hd ts ks vs ba na ra oa ∨ ¬ (v2 = 0 ∨ v2 = 1) := by
              by_cases f : v2 = 0 ∨ v2 = 1
              · refine Or.inl ⟨w1, nm_r (e' := upd fo s (nI z)) (by rw [c1]) (br_f e0 ⟨w1, nm_r (e' := upd ff s v2) (by rw [c1]) (br_f e0 ⟨w1, nm_r (e' := upd fc s v4) (by rw [c1]) ?_⟩)⟩)⟩
                have yf : wY_setFilter_49 (fun r' v' => r' = 0 ∧ i_Rel (k + 5) (nI c, ph, nw, jn, nI m, nI a, nI co, nI t, bc, nc, nI R.length, nI O.length, wk, ws, upd fo s (nI z), upd ff s v2, upd fc s v4, hd, ts, ks, vs, ba, na, ra, oa) v') (nI s) v2 (nI z) v4 (nI c) ph nw jn (nI m) (nI a) (nI co) (nI t) wk ws fo ff fc hd ts ks vs rs ct := by
                  refine br_f e0 ⟨w1, nm_r (e' := upd fo s (nI z)) (by rw [c1]) ⟨w1, nm_r (e' := upd ff s v2) (by rw [c1]) ⟨w1, nm_r (e' := upd fc s v4) (by rw [c1]) ⟨rfl, ?_⟩⟩⟩⟩
                  exact cq_R rfl rfl rfl rfl rfl rfl rfl h1 h2 h3 h4 h5 h6 h7 h8 (cq_cfF h9 (by omega)) h10 h11 h12
                refine br_t hp (cq_is hs (br_f l (br_t g (br_f e0 ?_))))
                exact br_c (fun _ => yf) (fun f0 => br_t (f.resolve_left f0) yf)
              · exact Or.inr f
            rcases fin with fin | f
            · by_cases f0 : v2 = 0
              · exact br_t f0 fin
              · by_cases f1 : v2 = 1
                · exact br_f f0 (br_t f1 fin)
                · exact br_f f0 (br_f f1 (br_t hp (cq_is hs (br_f l (br_t g (br_f e0 (br_f f0 (br_f f1 ⟨rfl, J⟩))))))))
            · exact br_f (fun z => f (Or.inl z)) (br_f (fun z => f (Or.inr z)) (br_t hp (cq_is hs (br_f l (br_t g (br_f e0 (br_f (fun z => f (Or.inl z)) (br_f (fun z => f (Or.inr z)) ⟨rfl, J⟩))))))))
        · exact br_f l (br_f g (br_t hp (cq_is hs (br_f l (br_f g ⟨rfl, J⟩)))))
    · exact br_t rfl (br_t hp (br_f n0 (br_f n1 ⟨rfl, J⟩)))
  · exact br_f hp (br_f hp ⟨rfl, J⟩)
theorem i_vc_setJoin {k : Nat} {u : SX} {v : SY} (I : i_Rel k u v) (hk : k + 5 ≤ 2561) (v1 : Int32) : wpX_setJoin (fun r u' => wpY_setJoin (fun r' v' => r' = r ∧ i_Rel (k + 5) u' v') v v1) u v1 := by
  have J : i_Rel (k + 5) u v := I
  obtain ⟨c, m, a, co, t, R, O, ph, nw, jn, bc, nc, wk, ws, fo, ff, fc, hd, ts, ks, vs, ba, na, ra, oa, rs, ct, rfl, rfl, h1, h2, h3, h4, h5, h6, h7, h8, h9, h10, h11, h12⟩ := I
  unfold wpX_setJoin
  by_cases hp : ph = 0
  · refine br_t hp ?_
    by_cases e0 : v1 = 0
    · exact br_t e0 (br_t hp (br_t e0 ⟨rfl, cq_R rfl rfl rfl rfl rfl rfl rfl h1 h2 h3 h4 h5 h6 h7 h8 h9 h10 h11 h12⟩))
    · by_cases e1 : v1 = 1
      · exact br_f e0 (br_t e1 (br_t hp (br_f e0 (br_t e1 ⟨rfl, cq_R rfl rfl rfl rfl rfl rfl rfl h1 h2 h3 h4 h5 h6 h7 h8 h9 h10 h11 h12⟩))))
      · exact br_f e0 (br_f e1 (br_t hp (br_f e0 (br_f e1 ⟨rfl, J⟩))))
  · exact br_f hp (br_f hp ⟨rfl, J⟩)
theorem i_vc_setProject {k : Nat} {u : SX} {v : SY} (I : i_Rel k u v) (hk : k + 5 ≤ 2561) (v1 : Int32) : wpX_setProject (fun r u' => wpY_setProject (fun r' v' => r' = r ∧ i_Rel (k + 5) u' v') v v1) u v1 := by
  have J : i_Rel (k + 5) u v := I
  obtain ⟨c, m, a, co, t, R, O, ph, nw, jn, bc, nc, wk, ws, fo, ff, fc, hd, ts, ks, vs, ba, na, ra, oa, rs, ct, rfl, rfl, h1, h2, h3, h4, h5, h6, h7, h8, h9, h10, h11, h12⟩ := I
  unfold wpX_setProject
  by_cases hp : ph = 0
  · refine br_t hp ?_
    by_cases l : v1 < 1
    · exact br_t l (br_t hp (br_t l ⟨rfl, J⟩))
    · by_cases g : v1 ≤ 7
      · obtain ⟨z, hz1, hz2, rfl⟩ := cq_rng (lo := 1) (hi := 7) (by decide) (by decide) l g
        exact br_f l (br_t g (br_t hp (br_f l (br_t g ⟨rfl, cq_R rfl rfl rfl rfl rfl rfl rfl h1 h2 hz1 hz2 h5 h6 h7 h8 h9 h10 h11 h12⟩))))
      · exact br_f l (br_f g (br_t hp (br_f l (br_f g ⟨rfl, J⟩))))
  · exact br_f hp (br_f hp ⟨rfl, J⟩)
theorem i_vc_setOutput {k : Nat} {u : SX} {v : SY} (I : i_Rel k u v) (hk : k + 5 ≤ 2561) (v1 : Int32) : wpX_setOutput (fun r u' => wpY_setOutput (fun r' v' => r' = r ∧ i_Rel (k + 5) u' v') v v1) u v1 := by
  have J : i_Rel (k + 5) u v := I
  obtain ⟨c, m, a, co, t, R, O, ph, nw, jn, bc, nc, wk, ws, fo, ff, fc, hd, ts, ks, vs, ba, na, ra, oa, rs, ct, rfl, rfl, h1, h2, h3, h4, h5, h6, h7, h8, h9, h10, h11, h12⟩ := I
  unfold wpX_setOutput
  by_cases hp : ph = 0
  · refine br_t hp ?_
    by_cases l : v1 < 1
    · exact br_t l (br_t hp (br_t l ⟨rfl, J⟩))
    · by_cases g : v1 ≤ 3
      · obtain ⟨z, hz1, hz2, rfl⟩ := cq_rng (lo := 1) (hi := 3) (by decide) (by decide) l g
        exact br_f l (br_t g (br_t hp (br_f l (br_t g ⟨rfl, cq_R rfl rfl rfl rfl rfl rfl rfl h1 h2 h3 h4 h5 h6 hz1 hz2 h9 h10 h11 h12⟩))))
      · exact br_f l (br_f g (br_t hp (br_f l (br_f g ⟨rfl, J⟩))))
  · exact br_f hp (br_f hp ⟨rfl, J⟩)
theorem i_vc_setAggregate {k : Nat} {u : SX} {v : SY} (I : i_Rel k u v) (hk : k + 5 ≤ 2561) (v1 : Int32) (v2 : Int32) : wpX_setAggregate (fun r u' => wpY_setAggregate (fun r' v' => r' = r ∧ i_Rel (k + 5) u' v') v v1 v2) u v1 v2 := by
  have J : i_Rel (k + 5) u v := I
  obtain ⟨c, m, a, co, t, R, O, ph, nw, jn, bc, nc, wk, ws, fo, ff, fc, hd, ts, ks, vs, ba, na, ra, oa, rs, ct, rfl, rfl, h1, h2, h3, h4, h5, h6, h7, h8, h9, h10, h11, h12⟩ := I
  unfold wpX_setAggregate
  by_cases hp : ph = 0
  · refine br_t hp ?_
    by_cases l : v1 < 0
    · exact br_t l (br_t hp (br_t l ⟨rfl, J⟩))
    · by_cases g : v1 ≤ 2
      · obtain ⟨z, hz1, hz2, rfl⟩ := cq_rng (lo := 0) (hi := 2) (by decide) (by decide) l g
        refine br_f l (br_t g ?_)
        by_cases e : nI z = 2
        · by_cases f1 : v2 = 1
          · subst f1
            exact br_t e (br_t rfl (br_t e (br_t hp (br_f l (br_t g (br_t e (br_t rfl (br_t e ⟨rfl, cq_R (co := 1) rfl rfl rfl rfl rfl rfl rfl h1 h2 h3 h4 (by omega) (by decide) h7 h8 h9 h10 h11 h12⟩))))))))
          · by_cases f2 : v2 = 2
            · subst f2
              exact br_t e (br_f f1 (br_t rfl (br_t e (br_t hp (br_f l (br_t g (br_t e (br_f f1 (br_t rfl (br_t e ⟨rfl, cq_R (co := 2) rfl rfl rfl rfl rfl rfl rfl h1 h2 h3 h4 (by omega) (by decide) h7 h8 h9 h10 h11 h12⟩))))))))))
            · exact br_t e (br_f f1 (br_f f2 (br_t hp (br_f l (br_t g (br_t e (br_f f1 (br_f f2 ⟨rfl, J⟩))))))))
        · exact br_f e (br_f e (br_t hp (br_f l (br_t g (br_f e (br_f e ⟨rfl, cq_R (co := 0) rfl rfl rfl rfl rfl rfl rfl h1 h2 h3 h4 (by omega) (by decide) h7 h8 h9 h10 h11 h12⟩))))))
      · exact br_f l (br_f g (br_t hp (br_f l (br_f g ⟨rfl, J⟩))))
  · exact br_f hp (br_f hp ⟨rfl, J⟩)
theorem i_vc_compile {k : Nat} {u : SX} {v : SY} (I : i_Rel k u v) (hk : k + 5 ≤ 2561) : wpX_compile (fun r u' => wpY_compile (fun r' v' => r' = r ∧ i_Rel (k + 5) u' v') v) u := by
  have J : i_Rel (k + 5) u v := I
  obtain ⟨c, m, a, co, t, R, O, ph, nw, jn, bc, nc, wk, ws, fo, ff, fc, hd, ts, ks, vs, ba, na, ra, oa, rs, ct, rfl, rfl, h1, h2, h3, h4, h5, h6, h7, h8, h9, h10, h11, h12⟩ := I
  unfold wpX_compile
  by_cases hp : ph = 0
  · refine br_t hp ?_
    have Rel : i_Rel (k + 5) (nI c, 1, 0, jn, nI m, nI a, nI co, nI t, bc, nc, 0, 0, wk, ws, fo, ff, fc, upd (upd hd 0 0) 1 0, ts, ks, vs, ba, na, ra, oa) (nI c, 1, 0, jn, nI m, nI a, nI co, nI t, wk, ws, fo, ff, fc, upd (upd hd 0 0) 1 0, ts, ks, vs, rs, upd (upd (upd (upd ct 0 0) 1 0) 2 0) 3 0) :=
      cq_R (R := []) (O := []) rfl rfl rfl rfl rfl rfl rfl h1 h2 h3 h4 h5 h6 h7 h8 (cq_cfH h9) h10 h11 cq_lsE
    have yc : wY_compile_35 (fun r' v' => r' = 0 ∧ i_Rel (k + 5) (nI c, 1, 0, jn, nI m, nI a, nI co, nI t, bc, nc, 0, 0, wk, ws, fo, ff, fc, upd (upd hd 0 0) 1 0, ts, ks, vs, ba, na, ra, oa) v') (nI c) ph nw jn (nI m) (nI a) (nI co) (nI t) wk ws fo ff fc hd ts ks vs rs ct := y_com ⟨rfl, Rel⟩
    by_cases ea : nI a = 2
    · by_cases ec : nI co = 2
      · by_cases ej : jn = 0
        · exact br_t ea (br_t ec (br_t ej (br_t hp (br_t ea (br_t ec (br_t ej ⟨rfl, J⟩))))))
        · refine br_t ea (br_t ec (br_f ej ?_))
          unfold wX_compile_35
          exact x_clr (br_t hp (br_t ea (br_t ec (br_f ej yc))))
      · refine br_t ea (br_f ec ?_)
        unfold wX_compile_35
        exact x_clr (br_t hp (br_t ea (br_f ec yc)))
    · refine br_f ea ?_
      unfold wX_compile_35
      exact x_clr (br_t hp (br_f ea yc))
  · exact br_f hp (br_f hp ⟨rfl, J⟩)
end
section
/-! the statements owed: arrive, stored, row, info, step -/
theorem i_vc_arrive {k : Nat} {u : SX} {v : SY} (I : i_Rel k u v) (hk : k + 5 ≤ 2561) (v1 : Int32) (v2 : Int32) (v3 : Int32) : wpX_arrive (fun r u' => wpY_arrive (fun r' v' => r' = r ∧ i_Rel (k + 5) u' v') v v1 v2 v3) u v1 v2 v3 := by
  have J : i_Rel (k + 5) u v := I
  obtain ⟨c, m, a, co, t, R, O, ph, nw, jn, bc, nc, wk, ws, fo, ff, fc, hd, ts, ks, vs, ba, na, ra, oa, rs, ct, rfl, rfl, h1, h2, h3, h4, h5, h6, h7, h8, h9, h10, h11, h12⟩ := I
  unfold wpX_arrive
  by_cases hp : ph = 1
  · refine br_t hp (x_iss (fun s hs e => ?_) (fun n0 n1 => ?_))
    · subst e
      have c1 : (nI s).toNatClampNeg = s := nI_clamp (by omega)
      have w1 : vp_in (nI s) 2 := vp_in_nI hs (by omega)
      have e12 : nI s * 12 = nI (s * 12) := pk_mul s 12
      obtain ⟨hw, ⟨z, hz1, hz2, hz3, hz4⟩, _, h, hh1, hh2⟩ := h9 s hs
      refine br_f (by decide) ?_
      have main : ∀ pY : (∀ postY : Int32 → SY → Prop, wY_arrive_37 postY (nI s) v2 v3 (nI c) ph nw jn (nI m) (nI a) (nI co) (nI t) wk ws fo ff fc hd ts ks vs rs ct → wpY_arrive postY (nI c, ph, nw, jn, nI m, nI a, nI co, nI t, wk, ws, fo, ff, fc, hd, ts, ks, vs, rs, ct) (nI s) v2 v3), wX_arrive_35 (fun r u' => wpY_arrive (fun r' v' => r' = r ∧ i_Rel (k + 5) u' v') (nI c, ph, nw, jn, nI m, nI a, nI co, nI t, wk, ws, fo, ff, fc, hd, ts, ks, vs, rs, ct) (nI s) v2 v3) (nI s) v2 v3 (nI c) ph nw jn (nI m) (nI a) (nI co) (nI t) bc nc (nI R.length) (nI O.length) wk ws fo ff fc hd ts ks vs ba na ra oa := by
        intro pY
        by_cases l1 : v2 < 0
        · exact br_t l1 (pY _ (br_t l1 ⟨rfl, J⟩))
        by_cases l2 : 15 < v2
        · exact br_f l1 (br_t l2 (pY _ (br_f l1 (br_t l2 ⟨rfl, J⟩))))
        by_cases l3 : v3 < 0
        · exact br_f l1 (br_f l2 (br_t l3 (pY _ (br_f l1 (br_f l2 (br_t l3 ⟨rfl, J⟩))))))
        by_cases l4 : v3 ≤ 255
        · obtain ⟨k2, _, hk2, rfl⟩ := cq_rng (lo := 0) (hi := 15) (by decide) (by decide) l1 (Int32.not_lt.mp l2)
          obtain ⟨k3, _, hk3, rfl⟩ := cq_rng (lo := 0) (hi := 255) (by decide) (by decide) l3 l4
          have fin : ∀ h' : Nat, h' + 1 ≤ c → ∀ (hd' ts' ks' vs' : Nat → Int32), cq_cf c wk ws fo hd' → cq_ok 16 ks' → cq_ok 256 vs' → hd' s = nI h' → i_Rel (k + 5) (nI c, ph, nw, jn, nI m, nI a, nI co, nI t, bc, nc, nI R.length, nI O.length, wk, ws, fo, ff, fc, upd hd' s (nI (h' + 1)), upd ts' (s * 12 + h') nw, upd ks' (s * 12 + h') (nI k2), upd vs' (s * 12 + h') (nI k3), ba, na, ra, oa) (nI c, ph, nw, jn, nI m, nI a, nI co, nI t, wk, ws, fo, ff, fc, upd hd' s (nI (h' + 1)), upd ts' (s * 12 + h') nw, upd ks' (s * 12 + h') (nI k2), upd vs' (s * 12 + h') (nI k3), rs, ct) := by
            intro h' g1 hd' ts' ks' vs' g2 g3 g4 g5
            exact cq_R rfl rfl rfl rfl rfl rfl rfl h1 h2 h3 h4 h5 h6 h7 h8 (cq_cfU g2 g1) (cq_okU g3 (by omega)) (cq_okU g4 (by omega)) h12
          refine br_f l1 (br_f l2 (br_f l3 (br_t l4 ⟨w1, ?_⟩)))
          rw [c1]
          by_cases q1 : wk s = 1
          · have q2 : ¬ wk s = 2 := by rw [q1]; decide
            refine br_t q1 ⟨w1, ?_⟩
            by_cases f : hd s < nI c
            · have f' : h < c := by rw [hh2, nI_ltI (by omega) (by omega)] at f; exact f
              refine br_t f ?_
              unfold wX_arrive_85
              rw [c1]
              refine ⟨w1, br_f q2 ?_⟩
              unfold wX_arrive_115
              refine x_app hs hh2 (by omega) (pY _ (br_f l1 (br_f l2 (br_f l3 (br_t l4 (nm_r e12 ⟨w1, ?_⟩))))))
              rw [c1]
              refine br_t q1 ⟨w1, br_t f ?_⟩
              unfold wY_arrive_93
              rw [c1]
              exact ⟨w1, br_f q2 (y_225 hs hh2 (by omega) ⟨rfl, fin h (by omega) hd ts ks vs h9 h10 h11 hh2⟩)⟩
            · refine br_f f (pY _ (br_f l1 (br_f l2 (br_f l3 (br_t l4 (nm_r e12 ⟨w1, ?_⟩))))))
              rw [c1]
              exact br_t q1 ⟨w1, br_f f ⟨rfl, J⟩⟩
          · have q2 : wk s = 2 := hw.resolve_left q1
            have hzc := hz4 q2
            refine br_f q1 ?_
            unfold wX_arrive_85
            rw [c1]
            refine ⟨w1, br_t q2 ⟨w1, w1, ?_⟩⟩
            have yy : ∀ postY : Int32 → SY → Prop, wY_arrive_93 postY (nI s) (nI k2) (nI k3) (nI (s * 12)) (nI c) ph nw jn (nI m) (nI a) (nI co) (nI t) wk ws fo ff fc hd ts ks vs rs ct → wpY_arrive postY (nI c, ph, nw, jn, nI m, nI a, nI co, nI t, wk, ws, fo, ff, fc, hd, ts, ks, vs, rs, ct) (nI s) (nI k2) (nI k3) := by
              intro postY H
              refine pY _ (br_f l1 (br_f l2 (br_f l3 (br_t l4 (nm_r e12 ⟨w1, ?_⟩)))))
              rw [c1]
              exact br_f q1 H
            by_cases f : hd s < ws s
            · have f' : h < z := by rw [hh2, hz3, nI_ltI (by omega) (by omega)] at f; exact f
              refine br_t f ?_
              unfold wX_arrive_115
              refine x_app hs hh2 (by omega) (yy _ ?_)
              unfold wY_arrive_93
              rw [c1]
              exact ⟨w1, br_t q2 ⟨w1, w1, br_t f (y_225 hs hh2 (by omega) ⟨rfl, fin h (by omega) hd ts ks vs h9 h10 h11 hh2⟩)⟩⟩
            · have f' : z ≤ h := by rw [hh2, hz3, nI_ltI (by omega) (by omega)] at f; omega
              refine br_f f (x_rem hs hh2 (by omega) (by omega) ?_)
              have e5 : upd hd s (nI (h - 1)) s = nI (h - 1) := pk_us
              have F := fin (h - 1) (by omega) (upd hd s (nI (h - 1))) (cq_rm (s * 12) ts (h - 1)) (cq_rm (s * 12) ks (h - 1)) (cq_rm (s * 12) vs (h - 1)) (cq_cfU h9 (by omega)) (cq_rmk h10 _) (cq_rmk h11 _) e5
              unfold wX_arrive_115
              refine x_app hs e5 (by omega) (yy _ ?_)
              unfold wY_arrive_93
              rw [c1]
              exact ⟨w1, br_t q2 ⟨w1, w1, br_f f ⟨h + 1, y_121 hs hh2 (by omega) (by omega) (y_225 hs e5 (by omega) ⟨rfl, F⟩) (h - 1) 0 (h + 1) (by omega) (by omega)⟩⟩⟩
        · exact br_f l1 (br_f l2 (br_f l3 (br_f l4 (pY _ (br_f l1 (br_f l2 (br_f l3 (br_f l4 ⟨rfl, J⟩))))))))
      by_cases es : nI s = 1
      · by_cases ej : jn = 0
        · exact br_t es (br_t ej (br_t hp (cq_is hs (br_t es (br_t ej ⟨rfl, J⟩)))))
        · exact br_t es (br_f ej (main (fun postY H => br_t hp (cq_is hs (br_t es (br_f ej H))))))
      · exact br_f es (main (fun postY H => br_t hp (cq_is hs (br_f es H))))
    · exact br_t rfl (br_t hp (br_f n0 (br_f n1 ⟨rfl, J⟩)))
  · exact br_f hp (br_f hp ⟨rfl, J⟩)
theorem i_vc_stored {k : Nat} {u : SX} {v : SY} (I : i_Rel k u v) (hk : k + 5 ≤ 2561) (v1 : Int32) (v2 : Int32) : wpX_stored (fun r => wpY_stored (fun r' => r' = r ∧ i_Rel (k + 5) u v) v v1 v2) u v1 v2 := by
  have J : i_Rel (k + 5) u v := I
  obtain ⟨c, m, a, co, t, R, O, ph, nw, jn, bc, nc, wk, ws, fo, ff, fc, hd, ts, ks, vs, ba, na, ra, oa, rs, ct, rfl, rfl, h1, h2, h3, h4, h5, h6, h7, h8, h9, h10, h11, h12⟩ := I
  unfold wpX_stored
  refine x_iss (fun s hs e => ?_) (fun n0 n1 => ?_)
  · subst e
    have c1 : (nI s).toNatClampNeg = s := nI_clamp (by omega)
    have w1 : vp_in (nI s) 2 := vp_in_nI hs (by omega)
    obtain ⟨_, _, _, h, hh1, hh2⟩ := h9 s hs
    refine br_f (by decide) ?_
    by_cases l : v2 < 0
    · exact br_t l (cq_is hs (br_t l ⟨rfl, J⟩))
    · obtain ⟨j, hj, rfl⟩ := nI_of l
      refine br_f l ⟨w1, ?_⟩
      rw [c1, hh2]
      by_cases g : j < h
      · have c2 : (nI (s * 12 + j)).toNatClampNeg = s * 12 + j := nI_clamp (by omega)
        have w2 : vp_in (nI (s * 12 + j)) 24 := vp_in_nI (by omega) (by omega)
        refine br_t (nI_lt g (by omega)) (x_pl ⟨w2, w2, w2, ?_⟩)
        rw [c2]
        refine cq_is hs (br_f l ⟨w1, ?_⟩)
        rw [c1, hh2]
        refine br_f (nI_ge g (by omega)) (br_t (nI_lt (b := 12) (by omega) (by decide)) (nm_r (cq_pl s j) ⟨w2, w2, w2, ?_⟩))
        rw [c2]
        exact ⟨rfl, J⟩
      · refine br_f (nI_nlt (by omega) (by omega)) ?_
        refine cq_is hs (br_f l ⟨w1, ?_⟩)
        rw [c1, hh2]
        exact br_t (nI_le (by omega) (by omega)) ⟨rfl, J⟩
  · exact br_t rfl (br_f n0 (br_f n1 ⟨rfl, J⟩))
theorem i_vc_row {k : Nat} {u : SX} {v : SY} (I : i_Rel k u v) (hk : k + 5 ≤ 2561) (v1 : Int32) (v2 : Int32) (v3 : Int32) : wpX_row (fun r => wpY_row (fun r' => r' = r ∧ i_Rel (k + 5) u v) v v1 v2 v3) u v1 v2 v3 := by
  have J : i_Rel (k + 5) u v := I
  obtain ⟨c, m, a, co, t, R, O, ph, nw, jn, bc, nc, wk, ws, fo, ff, fc, hd, ts, ks, vs, ba, na, ra, oa, rs, ct, rfl, rfl, h1, h2, h3, h4, h5, h6, h7, h8, h9, h10, h11, h12⟩ := I
  obtain ⟨hR, hO, aR, aO, sR, bR, bO⟩ := h12
  unfold wpX_row
  by_cases e0 : v1 = 0
  · have ec : ct (3 : Int32).toNatClampNeg = nI O.length := by rw [show (3 : Int32).toNatClampNeg = 3 from by decide]; exact aO.2.1
    have lL := aO.2.2
    have w : vp_in (3 : Int32) 4 := vp_in_nI (n := 3) (by decide) (by decide)
    by_cases l2 : v2 < 0
    · exact br_t e0 <| br_t e0 <| (br_t l2 (br_t e0 <| (br_t l2 ⟨rfl, J⟩)))
    by_cases l3 : v3 < 0
    · by_cases g : nI O.length ≤ v2
      · exact br_t e0 <| br_t e0 <| (br_f l2 (br_t g (br_t e0 <| (br_f l2 ⟨w, br_t (by rw [ec]; exact g) ⟨rfl, J⟩⟩))))
      · exact br_t e0 <| br_t e0 <| (br_f l2 (br_f g (br_t l3 (br_t e0 <| (br_f l2 ⟨w, br_f (by rw [ec]; exact g) (br_t l3 ⟨rfl, J⟩)⟩)))))
    by_cases l4 : v3 ≤ 2
    · obtain ⟨i, hi, rfl⟩ := nI_of l2
      obtain ⟨cc, _, hc2, rfl⟩ := cq_rng (lo := 0) (hi := 2) (by decide) (by decide) l3 l4
      by_cases g : nI O.length ≤ nI i
      · exact br_t e0 <| br_t e0 <| (br_f l2 (br_t g (br_t e0 <| (br_f l2 ⟨w, br_t (by rw [ec]; exact g) ⟨rfl, J⟩⟩))))
      · have g' : i < O.length := by rw [nI_leI (by omega) hi] at g; omega
        have hx := cq_Xg hO g'
        have hy := cq_arY aO g'
        have bx := bO _ (cq_gm g')
        have c1 : (nI i).toNatClampNeg = i := nI_clamp (by omega)
        have c2 : (nI ((3 * 144 + i) * 3 + cc)).toNatClampNeg = (3 * 144 + i) * 3 + cc := nI_clamp (by omega)
        refine br_t e0 <| br_t e0 <| (br_f l2 (br_f g (br_f l3 (br_t l4 (br_t e0 <| ⟨vp_in_nI (by omega) (by omega), ?_⟩)))))
        unfold wX_row_68
        rw [c1, hx]
        refine x_clm bx (by omega) ?_
        refine br_t e0 <| (br_f l2 ⟨w, br_f (by rw [ec]; exact g) (br_f l3 (br_t l4 (y_at (a := 3) ⟨vp_in_nI (by omega) (by omega), ?_⟩)))⟩)
        rw [c2]
        exact ⟨cq_Yc hy (by omega), J⟩
    · by_cases g : nI O.length ≤ v2
      · exact br_t e0 <| br_t e0 <| (br_f l2 (br_t g (br_t e0 <| (br_f l2 ⟨w, br_t (by rw [ec]; exact g) ⟨rfl, J⟩⟩))))
      · exact br_t e0 <| br_t e0 <| (br_f l2 (br_f g (br_f l3 (br_f l4 (br_t e0 <| (br_f l2 ⟨w, br_f (by rw [ec]; exact g) (br_f l3 (br_f l4 ⟨rfl, J⟩))⟩))))))
  · by_cases e1 : v1 = 1
    · have ec : ct (2 : Int32).toNatClampNeg = nI R.length := by rw [show (2 : Int32).toNatClampNeg = 2 from by decide]; exact aR.2.1
      have lL := aR.2.2
      have w : vp_in (2 : Int32) 4 := vp_in_nI (n := 2) (by decide) (by decide)
      by_cases l2 : v2 < 0
      · exact br_f e0 <| br_t e1 <| br_f e0 <| (br_t l2 (br_f e0 <| br_t e1 <| (br_t l2 ⟨rfl, J⟩)))
      by_cases l3 : v3 < 0
      · by_cases g : nI R.length ≤ v2
        · exact br_f e0 <| br_t e1 <| br_f e0 <| (br_f l2 (br_t g (br_f e0 <| br_t e1 <| (br_f l2 ⟨w, br_t (by rw [ec]; exact g) ⟨rfl, J⟩⟩))))
        · exact br_f e0 <| br_t e1 <| br_f e0 <| (br_f l2 (br_f g (br_t l3 (br_f e0 <| br_t e1 <| (br_f l2 ⟨w, br_f (by rw [ec]; exact g) (br_t l3 ⟨rfl, J⟩)⟩)))))
      by_cases l4 : v3 ≤ 2
      · obtain ⟨i, hi, rfl⟩ := nI_of l2
        obtain ⟨cc, _, hc2, rfl⟩ := cq_rng (lo := 0) (hi := 2) (by decide) (by decide) l3 l4
        by_cases g : nI R.length ≤ nI i
        · exact br_f e0 <| br_t e1 <| br_f e0 <| (br_f l2 (br_t g (br_f e0 <| br_t e1 <| (br_f l2 ⟨w, br_t (by rw [ec]; exact g) ⟨rfl, J⟩⟩))))
        · have g' : i < R.length := by rw [nI_leI (by omega) hi] at g; omega
          have hx := cq_Xg hR g'
          have hy := cq_arY aR g'
          have bx := bR _ (cq_gm g')
          have c1 : (nI i).toNatClampNeg = i := nI_clamp (by omega)
          have c2 : (nI ((2 * 144 + i) * 3 + cc)).toNatClampNeg = (2 * 144 + i) * 3 + cc := nI_clamp (by omega)
          refine br_f e0 <| br_t e1 <| br_f e0 <| (br_f l2 (br_f g (br_f l3 (br_t l4 (br_f e0 <| ⟨vp_in_nI (by omega) (by omega), ?_⟩)))))
          unfold wX_row_68
          rw [c1, hx]
          refine x_clm bx (by omega) ?_
          refine br_f e0 <| br_t e1 <| (br_f l2 ⟨w, br_f (by rw [ec]; exact g) (br_f l3 (br_t l4 (y_at (a := 2) ⟨vp_in_nI (by omega) (by omega), ?_⟩)))⟩)
          rw [c2]
          exact ⟨cq_Yc hy (by omega), J⟩
      · by_cases g : nI R.length ≤ v2
        · exact br_f e0 <| br_t e1 <| br_f e0 <| (br_f l2 (br_t g (br_f e0 <| br_t e1 <| (br_f l2 ⟨w, br_t (by rw [ec]; exact g) ⟨rfl, J⟩⟩))))
        · exact br_f e0 <| br_t e1 <| br_f e0 <| (br_f l2 (br_f g (br_f l3 (br_f l4 (br_f e0 <| br_t e1 <| (br_f l2 ⟨w, br_f (by rw [ec]; exact g) (br_f l3 (br_f l4 ⟨rfl, J⟩))⟩))))))
    · exact br_f e0 (br_f e1 (br_f e0 (br_f e1 ⟨rfl, J⟩)))
theorem i_vc_info {k : Nat} {u : SX} {v : SY} (I : i_Rel k u v) (hk : k + 5 ≤ 2561) (v1 : Int32) : wpX_info (fun r => wpY_info (fun r' => r' = r ∧ i_Rel (k + 5) u v) v v1) u v1 := by
  have J : i_Rel (k + 5) u v := I
  obtain ⟨c, m, a, co, t, R, O, ph, nw, jn, bc, nc, wk, ws, fo, ff, fc, hd, ts, ks, vs, ba, na, ra, oa, rs, ct, rfl, rfl, h1, h2, h3, h4, h5, h6, h7, h8, h9, h10, h11, h12⟩ := I
  obtain ⟨hR, hO, aR, aO, sR, bR, bO⟩ := h12
  unfold wpX_info
  by_cases l : v1 < 0
  · exact br_t l (br_t l ⟨rfl, J⟩)
  by_cases g : 21 < v1
  · exact br_f l (br_t g (br_f l (br_t g ⟨rfl, J⟩)))
  refine br_f l (br_f g ?_)
  by_cases e : v1 = 0
  · exact br_t e (br_f l (br_f g (br_t e (⟨rfl, J⟩))))
  have n0 := e
  clear e
  by_cases e : v1 = 1
  · exact br_f n0 (br_t e (br_f l (br_f g (br_f n0 (br_t e (⟨rfl, J⟩))))))
  have n1 := e
  clear e
  by_cases e : v1 = 2
  · exact br_f n0 (br_f n1 (br_t e (br_f l (br_f g (br_f n0 (br_f n1 (br_t e (⟨aO.2.1, J⟩))))))))
  have n2 := e
  clear e
  by_cases e : v1 = 3
  · exact br_f n0 (br_f n1 (br_f n2 (br_t e (br_f l (br_f g (br_f n0 (br_f n1 (br_f n2 (br_t e (⟨aR.2.1, J⟩))))))))))
  have n3 := e
  clear e
  by_cases e : v1 = 4
  · exact br_f n0 (br_f n1 (br_f n2 (br_f n3 (br_t e (br_f l (br_f g (br_f n0 (br_f n1 (br_f n2 (br_f n3 (br_t e (⟨rfl, J⟩))))))))))))
  have n4 := e
  clear e
  by_cases e : v1 = 5
  · exact br_f n0 (br_f n1 (br_f n2 (br_f n3 (br_f n4 (br_t e (br_f l (br_f g (br_f n0 (br_f n1 (br_f n2 (br_f n3 (br_f n4 (br_t e (⟨rfl, J⟩))))))))))))))
  have n5 := e
  clear e
  by_cases e : v1 = 6
  · exact br_f n0 (br_f n1 (br_f n2 (br_f n3 (br_f n4 (br_f n5 (br_t e (br_f l (br_f g (br_f n0 (br_f n1 (br_f n2 (br_f n3 (br_f n4 (br_f n5 (br_t e (⟨rfl, J⟩))))))))))))))))
  have n6 := e
  clear e
  by_cases e : v1 = 7
  · exact br_f n0 (br_f n1 (br_f n2 (br_f n3 (br_f n4 (br_f n5 (br_f n6 (br_t e (br_f l (br_f g (br_f n0 (br_f n1 (br_f n2 (br_f n3 (br_f n4 (br_f n5 (br_f n6 (br_t e (⟨rfl, J⟩))))))))))))))))))
  have n7 := e
  clear e
  by_cases e : v1 = 8
  · exact br_f n0 (br_f n1 (br_f n2 (br_f n3 (br_f n4 (br_f n5 (br_f n6 (br_f n7 (br_t e (br_f l (br_f g (br_f n0 (br_f n1 (br_f n2 (br_f n3 (br_f n4 (br_f n5 (br_f n6 (br_f n7 (br_t e (⟨rfl, J⟩))))))))))))))))))))
  have n8 := e
  clear e
  by_cases e : v1 = 9
  · exact br_f n0 (br_f n1 (br_f n2 (br_f n3 (br_f n4 (br_f n5 (br_f n6 (br_f n7 (br_f n8 (br_t e (br_f l (br_f g (br_f n0 (br_f n1 (br_f n2 (br_f n3 (br_f n4 (br_f n5 (br_f n6 (br_f n7 (br_f n8 (br_t e (⟨rfl, J⟩))))))))))))))))))))))
  have n9 := e
  clear e
  by_cases e : v1 = 10
  · exact br_f n0 (br_f n1 (br_f n2 (br_f n3 (br_f n4 (br_f n5 (br_f n6 (br_f n7 (br_f n8 (br_f n9 (br_t e (br_f l (br_f g (br_f n0 (br_f n1 (br_f n2 (br_f n3 (br_f n4 (br_f n5 (br_f n6 (br_f n7 (br_f n8 (br_f n9 (br_t e (⟨rfl, J⟩))))))))))))))))))))))))
  have n10 := e
  clear e
  by_cases e : v1 = 11
  · exact br_f n0 (br_f n1 (br_f n2 (br_f n3 (br_f n4 (br_f n5 (br_f n6 (br_f n7 (br_f n8 (br_f n9 (br_f n10 (br_t e (br_f l (br_f g (br_f n0 (br_f n1 (br_f n2 (br_f n3 (br_f n4 (br_f n5 (br_f n6 (br_f n7 (br_f n8 (br_f n9 (br_f n10 (br_t e (⟨rfl, J⟩))))))))))))))))))))))))))
  have n11 := e
  clear e
  by_cases e : v1 = 12
  · exact br_f n0 (br_f n1 (br_f n2 (br_f n3 (br_f n4 (br_f n5 (br_f n6 (br_f n7 (br_f n8 (br_f n9 (br_f n10 (br_f n11 (br_t e (br_f l (br_f g (br_f n0 (br_f n1 (br_f n2 (br_f n3 (br_f n4 (br_f n5 (br_f n6 (br_f n7 (br_f n8 (br_f n9 (br_f n10 (br_f n11 (br_t e (⟨rfl, J⟩))))))))))))))))))))))))))))
  have n12 := e
  clear e
  by_cases e : v1 = 13
  · exact br_f n0 (br_f n1 (br_f n2 (br_f n3 (br_f n4 (br_f n5 (br_f n6 (br_f n7 (br_f n8 (br_f n9 (br_f n10 (br_f n11 (br_f n12 (br_t e (br_f l (br_f g (br_f n0 (br_f n1 (br_f n2 (br_f n3 (br_f n4 (br_f n5 (br_f n6 (br_f n7 (br_f n8 (br_f n9 (br_f n10 (br_f n11 (br_f n12 (br_t e (⟨rfl, J⟩))))))))))))))))))))))))))))))
  have n13 := e
  clear e
  by_cases e : v1 = 14
  · exact br_f n0 (br_f n1 (br_f n2 (br_f n3 (br_f n4 (br_f n5 (br_f n6 (br_f n7 (br_f n8 (br_f n9 (br_f n10 (br_f n11 (br_f n12 (br_f n13 (br_t e (br_f l (br_f g (br_f n0 (br_f n1 (br_f n2 (br_f n3 (br_f n4 (br_f n5 (br_f n6 (br_f n7 (br_f n8 (br_f n9 (br_f n10 (br_f n11 (br_f n12 (br_f n13 (br_t e (⟨rfl, J⟩))))))))))))))))))))))))))))))))
  have n14 := e
  clear e
  by_cases e : v1 = 15
  · exact br_f n0 (br_f n1 (br_f n2 (br_f n3 (br_f n4 (br_f n5 (br_f n6 (br_f n7 (br_f n8 (br_f n9 (br_f n10 (br_f n11 (br_f n12 (br_f n13 (br_f n14 (br_t e (br_f l (br_f g (br_f n0 (br_f n1 (br_f n2 (br_f n3 (br_f n4 (br_f n5 (br_f n6 (br_f n7 (br_f n8 (br_f n9 (br_f n10 (br_f n11 (br_f n12 (br_f n13 (br_f n14 (br_t e (⟨rfl, J⟩))))))))))))))))))))))))))))))))))
  have n15 := e
  clear e
  by_cases e : v1 = 16
  · exact br_f n0 (br_f n1 (br_f n2 (br_f n3 (br_f n4 (br_f n5 (br_f n6 (br_f n7 (br_f n8 (br_f n9 (br_f n10 (br_f n11 (br_f n12 (br_f n13 (br_f n14 (br_f n15 (br_t e (br_f l (br_f g (br_f n0 (br_f n1 (br_f n2 (br_f n3 (br_f n4 (br_f n5 (br_f n6 (br_f n7 (br_f n8 (br_f n9 (br_f n10 (br_f n11 (br_f n12 (br_f n13 (br_f n14 (br_f n15 (br_t e (⟨rfl, J⟩))))))))))))))))))))))))))))))))))))
  have n16 := e
  clear e
  by_cases e : v1 = 17
  · exact br_f n0 (br_f n1 (br_f n2 (br_f n3 (br_f n4 (br_f n5 (br_f n6 (br_f n7 (br_f n8 (br_f n9 (br_f n10 (br_f n11 (br_f n12 (br_f n13 (br_f n14 (br_f n15 (br_f n16 (br_t e (br_f l (br_f g (br_f n0 (br_f n1 (br_f n2 (br_f n3 (br_f n4 (br_f n5 (br_f n6 (br_f n7 (br_f n8 (br_f n9 (br_f n10 (br_f n11 (br_f n12 (br_f n13 (br_f n14 (br_f n15 (br_f n16 (br_t e (⟨rfl, J⟩))))))))))))))))))))))))))))))))))))))
  have n17 := e
  clear e
  by_cases e : v1 = 18
  · exact br_f n0 (br_f n1 (br_f n2 (br_f n3 (br_f n4 (br_f n5 (br_f n6 (br_f n7 (br_f n8 (br_f n9 (br_f n10 (br_f n11 (br_f n12 (br_f n13 (br_f n14 (br_f n15 (br_f n16 (br_f n17 (br_t e (br_f l (br_f g (br_f n0 (br_f n1 (br_f n2 (br_f n3 (br_f n4 (br_f n5 (br_f n6 (br_f n7 (br_f n8 (br_f n9 (br_f n10 (br_f n11 (br_f n12 (br_f n13 (br_f n14 (br_f n15 (br_f n16 (br_f n17 (br_t e (⟨rfl, J⟩))))))))))))))))))))))))))))))))))))))))
  have n18 := e
  clear e
  by_cases e : v1 = 19
  · exact br_f n0 (br_f n1 (br_f n2 (br_f n3 (br_f n4 (br_f n5 (br_f n6 (br_f n7 (br_f n8 (br_f n9 (br_f n10 (br_f n11 (br_f n12 (br_f n13 (br_f n14 (br_f n15 (br_f n16 (br_f n17 (br_f n18 (br_t e (br_f l (br_f g (br_f n0 (br_f n1 (br_f n2 (br_f n3 (br_f n4 (br_f n5 (br_f n6 (br_f n7 (br_f n8 (br_f n9 (br_f n10 (br_f n11 (br_f n12 (br_f n13 (br_f n14 (br_f n15 (br_f n16 (br_f n17 (br_f n18 (br_t e (⟨rfl, J⟩))))))))))))))))))))))))))))))))))))))))))
  have n19 := e
  clear e
  by_cases e : v1 = 20
  · exact br_f n0 (br_f n1 (br_f n2 (br_f n3 (br_f n4 (br_f n5 (br_f n6 (br_f n7 (br_f n8 (br_f n9 (br_f n10 (br_f n11 (br_f n12 (br_f n13 (br_f n14 (br_f n15 (br_f n16 (br_f n17 (br_f n18 (br_f n19 (br_t e (br_f l (br_f g (br_f n0 (br_f n1 (br_f n2 (br_f n3 (br_f n4 (br_f n5 (br_f n6 (br_f n7 (br_f n8 (br_f n9 (br_f n10 (br_f n11 (br_f n12 (br_f n13 (br_f n14 (br_f n15 (br_f n16 (br_f n17 (br_f n18 (br_f n19 (br_t e (⟨rfl, J⟩))))))))))))))))))))))))))))))))))))))))))))
  have n20 := e
  clear e
  by_cases e : v1 = 21
  · exact br_f n0 (br_f n1 (br_f n2 (br_f n3 (br_f n4 (br_f n5 (br_f n6 (br_f n7 (br_f n8 (br_f n9 (br_f n10 (br_f n11 (br_f n12 (br_f n13 (br_f n14 (br_f n15 (br_f n16 (br_f n17 (br_f n18 (br_f n19 (br_f n20 (br_t e (br_f l (br_f g (br_f n0 (br_f n1 (br_f n2 (br_f n3 (br_f n4 (br_f n5 (br_f n6 (br_f n7 (br_f n8 (br_f n9 (br_f n10 (br_f n11 (br_f n12 (br_f n13 (br_f n14 (br_f n15 (br_f n16 (br_f n17 (br_f n18 (br_f n19 (br_f n20 (br_t e (⟨rfl, J⟩))))))))))))))))))))))))))))))))))))))))))))))
  have n21 := e
  clear e
  exfalso
  obtain ⟨z, hz1, hz2, rfl⟩ := cq_rng (lo := 0) (hi := 21) (by decide) (by decide) l (Int32.not_lt.mp g)
  have m0 : z ≠ 0 := fun q => n0 (by rw [q]; rfl)
  have m1 : z ≠ 1 := fun q => n1 (by rw [q]; rfl)
  have m2 : z ≠ 2 := fun q => n2 (by rw [q]; rfl)
  have m3 : z ≠ 3 := fun q => n3 (by rw [q]; rfl)
  have m4 : z ≠ 4 := fun q => n4 (by rw [q]; rfl)
  have m5 : z ≠ 5 := fun q => n5 (by rw [q]; rfl)
  have m6 : z ≠ 6 := fun q => n6 (by rw [q]; rfl)
  have m7 : z ≠ 7 := fun q => n7 (by rw [q]; rfl)
  have m8 : z ≠ 8 := fun q => n8 (by rw [q]; rfl)
  have m9 : z ≠ 9 := fun q => n9 (by rw [q]; rfl)
  have m10 : z ≠ 10 := fun q => n10 (by rw [q]; rfl)
  have m11 : z ≠ 11 := fun q => n11 (by rw [q]; rfl)
  have m12 : z ≠ 12 := fun q => n12 (by rw [q]; rfl)
  have m13 : z ≠ 13 := fun q => n13 (by rw [q]; rfl)
  have m14 : z ≠ 14 := fun q => n14 (by rw [q]; rfl)
  have m15 : z ≠ 15 := fun q => n15 (by rw [q]; rfl)
  have m16 : z ≠ 16 := fun q => n16 (by rw [q]; rfl)
  have m17 : z ≠ 17 := fun q => n17 (by rw [q]; rfl)
  have m18 : z ≠ 18 := fun q => n18 (by rw [q]; rfl)
  have m19 : z ≠ 19 := fun q => n19 (by rw [q]; rfl)
  have m20 : z ≠ 20 := fun q => n20 (by rw [q]; rfl)
  have m21 : z ≠ 21 := fun q => n21 (by rw [q]; rfl)
  omega
theorem i_vc_step {k : Nat} {u : SX} {v : SY} (I : i_Rel k u v) (hk : k + 5 ≤ 2561) : wpX_step (fun r u' => wpY_step (fun r' v' => r' = r ∧ i_Rel (k + 5) u' v') v) u := by
  have J : i_Rel (k + 5) u v := I
  obtain ⟨c, m, a, co, t, R, O, ph, nw, jn, bc, nc, wk, ws, fo, ff, fc, hd, ts, ks, vs, ba, na, ra, oa, rs, ct, rfl, rfl, h1, h2, h3, h4, h5, h6, h7, h8, h9, h10, h11, h12⟩ := I
  obtain ⟨hR, hO, aR, aO, sR, bR, bO⟩ := h12
  by_cases hp : ph = 1
  · obtain ⟨_, _, ⟨o', ho', hf'⟩, g0, g01, hh0⟩ := h9 0 (by decide)
    obtain ⟨_, _, ⟨o, ho, hf⟩, g1, g11, hh⟩ := h9 1 (by decide)
    have hj0 : jn = 0 → (!decide (jn = 0)) = false := fun z => by rw [decide_eq_true z]; rfl
    have hj1 : ¬ jn = 0 → (!decide (jn = 0)) = true := fun z => by rw [decide_eq_false z]; rfl
    refine x_step (K := fun i => (ks i).toNatClampNeg) (V := fun i => (vs i).toNatClampNeg) (p := fun j => cq_ps (fo 0) (ff 0) (fc 0) (ks j) (vs j)) (q := fun j => cq_ps (fo 1) (ff 1) (fc 1) (ks (12 + j)) (vs (12 + j))) (jb := !decide (jn = 0)) hp (cq_okK h10 (by decide)) (cq_okK h11 (by decide)) hh0 (by omega) hh (by omega) ho hf ho' hf' (fun _ => rfl) (fun _ => rfl) hj0 hj1 h5 h6 h3 h4 h7 h8 hR aR.2.2 bR (fun S O2 Q bc2 nc2 ba2 na2 ra2 oa2 eS eO eQ hS hO2 => ?_)
    refine y_step (S := S) (O := O2) (Q := Q) (K := fun i => (ks i).toNatClampNeg) (V := fun i => (vs i).toNatClampNeg) (p := fun j => cq_ps (fo 0) (ff 0) (fc 0) (ks j) (vs j)) (q := fun j => cq_ps (fo 1) (ff 1) (fc 1) (ks (12 + j)) (vs (12 + j))) (jb := !decide (jn = 0)) hp (cq_okK h10 (by decide)) (cq_okK h11 (by decide)) hh0 (by omega) hh (by omega) ho hf ho' hf' (fun _ => rfl) (fun _ => rfl) hj0 hj1 h5 h6 h4 h7 h8 aR sR bR eQ eS eO (fun rs2 ct2 a2 a3 => ⟨rfl, ?_⟩)
    have lB := cq_bsl (!decide (jn = 0)) (fun i => (ks i).toNatClampNeg) (fun i => (vs i).toNatClampNeg) (fun j => cq_ps (fo 0) (ff 0) (fc 0) (ks j) (vs j)) (fun j => cq_ps (fo 1) (ff 1) (fc 1) (ks (12 + j)) (vs (12 + j))) (h1 := g1) (by omega) g0
    have bB := cq_bsB (fun i => (cq_okK h10 (by decide) i).2) (fun i => (cq_okK h11 (by decide) i).2) (!decide (jn = 0)) (fun j => cq_ps (fo 0) (ff 0) (fc 0) (ks j) (vs j)) (fun j => cq_ps (fo 1) (ff 1) (fc 1) (ks (12 + j)) (vs (12 + j))) g1 g0
    have bS : ∀ x, x ∈ S → x < 268435456 := by rw [eS]; exact cq_nxb bB (by omega) h6
    have sS : S.Pairwise (· ≤ ·) := by rw [eS]; exact cq_sos _
    have bO2 : ∀ x, x ∈ O2 → x < 268435456 := fun x hx => by
      rw [eO] at hx
      rcases cq_ouS t S R with z | z
      · exact bS x (z.subset hx)
      · exact bR x (z.subset hx)
    have q0 := cq_xpI (s := 0) (nw := nw + 1) (q := (hd, ts, ks, vs)) (by decide) h2 h9 h10 h11
    have q1 := cq_xpI (s := 1) (nw := nw + 1) (by decide) h2 q0.1 q0.2.1 q0.2.2
    rw [← eQ] at q1
    exact cq_R rfl rfl rfl rfl rfl rfl rfl h1 h2 h3 h4 h5 h6 h7 h8 q1.1 q1.2.1 q1.2.2 ⟨hS, hO2, a2, a3, sS, bS, bO2⟩
  · unfold wpX_step
    exact br_f hp (br_f hp ⟨rfl, J⟩)
end
