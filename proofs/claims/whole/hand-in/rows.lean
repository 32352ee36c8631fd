section
theorem pk_us {f : Nat → Int32} {k : Nat} {x : Int32} : upd f k x k = x := if_pos rfl
theorem pk_un {f : Nat → Int32} {k j : Nat} {x : Int32} (h : j ≠ k) : upd f k x j = f j := if_neg h
theorem pk_sub {a b : Nat} (h : b ≤ a) : nI a - nI b = nI (a - b) := by
  obtain ⟨c, rfl⟩ : ∃ c, a = c + b := ⟨a - b, by omega⟩
  rw [← nI_add, Int32.add_sub_cancel, Nat.add_sub_cancel]
theorem pk_m1 (n : Nat) : nI (n + 1) + (-1) = nI n := by
  rw [← nI_1, Int32.add_assoc, show (1 : Int32) + (-1) = 0 from rfl, Int32.add_zero]
theorem pk_mul (a b : Nat) : nI a * nI b = nI (a * b) := (Int32.ofNat_mul a b).symm
theorem pk_div {a d : Nat} (ha : a < 2 ^ 31) (h0 : 0 < d) (hd : d < 2 ^ 31) : nI a / nI d = nI (a / d) := by
  apply Int32.toInt_inj.mp
  rw [lg_idiv_nonneg (by rw [nI_toInt ha]; omega) (by rw [nI_toInt hd]; omega), nI_toInt ha, nI_toInt hd, nI_toInt (Nat.lt_of_le_of_lt (Nat.div_le_self a d) ha)]
  first | rfl | exact (Int.natCast_ediv _ _).symm
theorem pk_rem {a d : Nat} (ha : a < 2 ^ 31) (h0 : 0 < d) (hd : d < 2 ^ 31) : nI a - nI a / nI d * nI d = nI (a % d) := by
  rw [pk_div ha h0 hd, pk_mul, pk_sub (Nat.div_mul_le_self a d)]
  exact congrArg nI (by have := Nat.div_add_mod' a d; omega)
theorem pk_sub_toInt {a b : Nat} (ha : a < 2 ^ 30) (hb : b < 2 ^ 30) : (nI a - nI b).toInt = (a : Int) - b := by
  rw [Int32.toInt_sub, nI_toInt (by omega), nI_toInt (by omega)]
  exact Int.bmod_eq_of_le (by omega) (by omega)
theorem pk_sneg {a b : Nat} (hb : b < 2 ^ 30) (h : a < b) : nI a - nI b < 0 := by
  rw [Int32.lt_iff_toInt_lt, pk_sub_toInt (by omega) hb, show (0 : Int32).toInt = 0 from by decide]
  omega
theorem pk_ix (x : Int32) {n : Nat} (hn : n < 2 ^ 31) : x < 0 ∨ nI n ≤ x ∨ ∃ j : Nat, j < n ∧ x = nI j := by
  by_cases h : x < 0
  · exact Or.inl h
  · obtain ⟨j, hj, rfl⟩ := nI_of h
    by_cases h2 : j < n
    · exact Or.inr (Or.inr ⟨j, h2, rfl⟩)
    · exact Or.inr (Or.inl (nI_le (by omega) hj))
theorem pk_le {x y : Int32} {A B : Prop} (a b : Nat) (f : a ≤ b → A) (g : b < a → B) (hx : x = nI a := by rfl) (hy : y = nI b := by rfl) (ha : a < 2 ^ 31 := by omega) (hb : b < 2 ^ 31 := by omega) : (x ≤ y → A) ∧ (¬ x ≤ y → B) := by
  subst hx hy
  rw [nI_leI ha hb]
  exact ⟨f, fun z => g (by omega)⟩
theorem pk_lt {x y : Int32} {A B : Prop} (a b : Nat) (f : a < b → A) (g : b ≤ a → B) (hx : x = nI a := by rfl) (hy : y = nI b := by rfl) (ha : a < 2 ^ 31 := by omega) (hb : b < 2 ^ 31 := by omega) : (x < y → A) ∧ (¬ x < y → B) := by
  subst hx hy
  rw [nI_ltI ha hb]
  exact ⟨f, fun z => g (by omega)⟩
theorem pk_eq {x y : Int32} {A B : Prop} (a b : Nat) (f : a = b → A) (g : a ≠ b → B) (hx : x = nI a := by rfl) (hy : y = nI b := by rfl) (ha : a < 2 ^ 31 := by omega) (hb : b < 2 ^ 31 := by omega) : (x = y → A) ∧ (¬ x = y → B) := by
  subst hx hy
  rw [nI_eq ha hb]
  exact ⟨f, g⟩
theorem pk_in {x : Int32} (n N : Nat) (h : n < N) (hx : x = nI n := by rfl) (hN : N < 2 ^ 31 := by omega) : vp_in x N := by
  subst hx
  exact vp_in_nI h hN
theorem pk_cl {x : Int32} (n : Nat) (hx : x = nI n := by rfl) (h : n < 2 ^ 31 := by omega) : x.toNatClampNeg = n := by
  subst hx
  exact nI_clamp h
theorem pk_tn {n : Nat} (h : n < 2 ^ 32) : (nI n).toBitVec.toNat = n := Nat.mod_eq_of_lt h
theorem pk_and (x : Int32) {m : Int32} (k : Nat) (hm : m.toBitVec.toNat = 2 ^ k - 1) : x &&& m = nI (x.toBitVec.toNat % 2 ^ k) := by
  apply Int32.toBitVec_inj.mp
  apply BitVec.eq_of_toNat_eq
  rw [Int32.toBitVec_and, BitVec.toNat_and, hm, Nat.and_two_pow_sub_one_eq_mod]
  show _ = (BitVec.ofNat 32 _).toNat
  rw [BitVec.toNat_ofNat]
  exact (Nat.mod_eq_of_lt (Nat.lt_of_le_of_lt (Nat.mod_le _ _) x.toBitVec.isLt)).symm
theorem pk_andN {n : Nat} (h : n < 2 ^ 32) {m : Int32} (k : Nat) (hm : m.toBitVec.toNat = 2 ^ k - 1) : nI n &&& m = nI (n % 2 ^ k) := by
  rw [pk_and _ k hm, pk_tn h]
theorem pk_andE (x : Int32) {m : Int32} (k : Nat) (hm : m.toBitVec.toNat = 2 ^ k - 1) : ∃ j : Nat, j < 2 ^ k ∧ x &&& m = nI j := ⟨_, Nat.mod_lt _ (Nat.two_pow_pos k), pk_and x k hm⟩
theorem pk_least (P : Nat → Prop) (h : ∃ k, P k) : ∃ k, P k ∧ ∀ j, j < k → ¬ P j := by
  obtain ⟨k, hk⟩ := h
  induction k using Nat.strongRecOn with
  | ind k ih =>
    by_cases e : ∃ j, j < k ∧ P j
    · obtain ⟨j, hj, pj⟩ := e
      exact ih j hj pj
    · exact ⟨k, hk, fun j hj pj => e ⟨j, hj, pj⟩⟩
theorem sb_cl0 : (0 : Int32).toNatClampNeg = 0 := by decide
theorem sb_m1 {p : Nat} (h : 0 < p) : nI p + (-1) = nI (p - 1) := by
  obtain ⟨q, rfl⟩ : ∃ q, p = q + 1 := ⟨p - 1, by omega⟩
  exact pk_m1 q
end
section
/-! numbers of the format, distances, the plan's local conditions, the reach table's local conditions -/
def qd_ext (F E x : Nat) : Nat := if x < F then 0 else (x - F) / E + 1
def qd_hd (F E l : Nat) : Nat := 1 + qd_ext F E l + l
def qd_rep (S : Nat → Int32) (q m d : Nat) : Prop := ∀ i, i < m → S (q + i) = S (q + i - d)
def qd_isD (S : Nat → Int32) (q m d : Nat) : Prop :=
  (d = 0 ∧ ∀ e, 1 ≤ e → e ≤ q → ¬ qd_rep S q m e) ∨
  (1 ≤ d ∧ d ≤ q ∧ qd_rep S q m d ∧ ∀ e, 1 ≤ e → e < d → ¬ qd_rep S q m e)
theorem qd_exD (S : Nat → Int32) (q m : Nat) : ∃ d, qd_isD S q m d := by
  by_cases h : ∃ d, 1 ≤ d ∧ d ≤ q ∧ qd_rep S q m d
  · obtain ⟨d, ⟨h1, h2, h3⟩, h4⟩ := pk_least (fun d => 1 ≤ d ∧ d ≤ q ∧ qd_rep S q m d) h
    exact ⟨d, Or.inr ⟨h1, h2, h3, fun e he hd hr => h4 e hd ⟨he, by omega, hr⟩⟩⟩
  · exact ⟨0, Or.inl ⟨rfl, fun e h1 h2 h3 => h ⟨e, h1, h2, h3⟩⟩⟩
noncomputable def qd_D (S : Nat → Int32) (q m : Nat) : Nat := Classical.choose (qd_exD S q m)
theorem qd_Ds (S : Nat → Int32) (q m : Nat) : qd_isD S q m (qd_D S q m) := Classical.choose_spec (qd_exD S q m)
theorem qd_Du {S : Nat → Int32} {q m d e : Nat} (hd : qd_isD S q m d) (he : qd_isD S q m e) : d = e := by
  rcases hd with ⟨h1, h2⟩ | ⟨h1, h2, h3, h4⟩
  · rcases he with ⟨g1, g2⟩ | ⟨g1, g2, g3, g4⟩
    · omega
    · exact absurd g3 (h2 e g1 g2)
  · rcases he with ⟨g1, g2⟩ | ⟨g1, g2, g3, g4⟩
    · exact absurd h3 (g2 d h1 h2)
    · by_cases a : d < e
      · exact absurd h3 (g4 d h1 a)
      · by_cases b : e < d
        · exact absurd g3 (h4 e g1 b)
        · omega
theorem qd_De {S : Nat → Int32} {q m d : Nat} (h : qd_isD S q m d) : qd_D S q m = d := qd_Du (qd_Ds S q m) h
theorem qd_Dle (S : Nat → Int32) (q m : Nat) : qd_D S q m ≤ q := by
  rcases qd_Ds S q m with ⟨h1, _⟩ | ⟨_, h2, _⟩
  · omega
  · exact h2
def qd_feas (S : Nat → Int32) (n K p l m : Nat) : Prop := K ≤ m ∧ p + l + m ≤ n ∧ 0 < qd_D S (p + l) m
def qd_cost (F E K : Nat) (pc : Nat → Nat) (p l m : Nat) : Nat := qd_hd F E l + (2 + qd_ext F E (m - K)) + pc (p + l + m)
def qd_bef (a b l m : Nat) : Prop := a < l ∨ (a = l ∧ m < b)
def qd_fin (n T p : Nat) : Prop := p = 0 ∨ T ≤ n - p
def qd_best (S : Nat → Int32) (n F E K : Nat) (pc : Nat → Nat) (p l0 m0 c l m d : Nat) : Prop :=
  c ≤ 1000000 ∧ (∀ a b, qd_bef a b l0 m0 → qd_feas S n K p a b → c ≤ qd_cost F E K pc p a b) ∧
  (c = 1000000 ∨ (qd_feas S n K p l m ∧ c = qd_cost F E K pc p l m ∧ c < 1000000 ∧ d = qd_D S (p + l) m ∧
    ∀ a b, qd_bef a b l m → qd_feas S n K p a b → c < qd_cost F E K pc p a b))
theorem qd_best_0 {S : Nat → Int32} {n F E K : Nat} {pc : Nat → Nat} {p m0 l m d : Nat} (h : n ≤ p + m0) :
    qd_best S n F E K pc p 0 m0 1000000 l m d := by
  refine ⟨Nat.le_refl _, fun a b hb hf => ?_, Or.inl rfl⟩
  obtain ⟨h1, h2, h3⟩ := hf
  rcases hb with hb | ⟨h4, h5⟩
  · omega
  · omega
theorem qd_best_take {S : Nat → Int32} {n F E K : Nat} {pc : Nat → Nat} {p l0 m0 c l m d : Nat}
    (h : qd_best S n F E K pc p l0 m0 c l m d) (hK : K ≤ m0) (hn : p + l0 + m0 ≤ n)
    (hc : qd_cost F E K pc p l0 m0 < c) (hD : 0 < qd_D S (p + l0) m0) (h0 : 0 < m0) :
    qd_best S n F E K pc p l0 (m0 - 1) (qd_cost F E K pc p l0 m0) l0 m0 (qd_D S (p + l0) m0) := by
  obtain ⟨h1, h2, h3⟩ := h
  refine ⟨by omega, fun a b hb hf => ?_, Or.inr ⟨⟨hK, hn, hD⟩, rfl, by omega, rfl, fun a b hb hf => ?_⟩⟩
  · by_cases hh : qd_bef a b l0 m0
    · have := h2 a b hh hf
      omega
    · have e : a = l0 ∧ b = m0 := by
        unfold qd_bef at hb hh
        omega
      rw [e.1, e.2]
      exact Nat.le_refl _
  · have := h2 a b hb hf
    omega
theorem qd_best_skip {S : Nat → Int32} {n F E K : Nat} {pc : Nat → Nat} {p l0 m0 c l m d : Nat}
    (h : qd_best S n F E K pc p l0 m0 c l m d) (hs : ¬ (qd_cost F E K pc p l0 m0 < c ∧ 0 < qd_D S (p + l0) m0)) (h0 : 0 < m0) :
    qd_best S n F E K pc p l0 (m0 - 1) c l m d := by
  obtain ⟨h1, h2, h3⟩ := h
  refine ⟨h1, fun a b hb hf => ?_, h3⟩
  by_cases hh : qd_bef a b l0 m0
  · exact h2 a b hh hf
  · have e : a = l0 ∧ b = m0 := by
      unfold qd_bef at hb hh
      omega
    obtain ⟨rfl, rfl⟩ := e
    have := hf.2.2
    omega
theorem qd_best_next {S : Nat → Int32} {n F E K : Nat} {pc : Nat → Nat} {p l0 m0 m1 c l m d : Nat}
    (h : qd_best S n F E K pc p l0 m0 c l m d) (hK : m0 < K) (hn : n ≤ p + (l0 + 1) + m1) :
    qd_best S n F E K pc p (l0 + 1) m1 c l m d := by
  obtain ⟨h1, h2, h3⟩ := h
  refine ⟨h1, fun a b hb hf => h2 a b ?_ hf, h3⟩
  obtain ⟨g1, g2, g3⟩ := hf
  unfold qd_bef at hb ⊢
  omega
theorem qd_best_all {S : Nat → Int32} {n F E K : Nat} {pc : Nat → Nat} {p l0 m0 c l m d : Nat}
    (h : qd_best S n F E K pc p l0 m0 c l m d) (hn : n < p + l0 + K) :
    ∀ a b, qd_feas S n K p a b → c ≤ qd_cost F E K pc p a b := by
  intro a b hf
  refine h.2.1 a b ?_ hf
  obtain ⟨g1, g2, g3⟩ := hf
  unfold qd_bef
  omega
def qd_PL (S : Nat → Int32) (n F E K T : Nat) (pc pl pm pd : Nat → Nat) (p : Nat) : Prop :=
  pc p ≤ 1000000 ∧ 1 ≤ pc p ∧
  (∀ a b, qd_feas S n K p a b → pc p ≤ qd_cost F E K pc p a b) ∧ (qd_fin n T p → pc p ≤ qd_hd F E (n - p)) ∧
  (pc p = 1000000 ∨
   (pm p = 0 ∧ pl p = n - p ∧ qd_fin n T p ∧ pc p = qd_hd F E (n - p) ∧ ∀ a b, qd_feas S n K p a b → pc p < qd_cost F E K pc p a b) ∨
   (qd_feas S n K p (pl p) (pm p) ∧ pc p < 1000000 ∧ pc p = qd_cost F E K pc p (pl p) (pm p) ∧ pd p = qd_D S (p + pl p) (pm p) ∧
     ∀ a b, qd_bef a b (pl p) (pm p) → qd_feas S n K p a b → pc p < qd_cost F E K pc p a b))
/-- the four tables with new entries at p -/
def qd_at (f : Nat → Nat) (p v : Nat) : Nat → Nat := fun j => if j = p then v else f j
theorem qd_at_s {f : Nat → Nat} {p v : Nat} : qd_at f p v p = v := if_pos rfl
theorem qd_at_n {f : Nat → Nat} {p v j : Nat} (h : j ≠ p) : qd_at f p v j = f j := if_neg h
theorem qd_cost_at {F E K : Nat} {pc : Nat → Nat} {p p' v l m : Nat} (h : p < p' + l + m) : qd_cost F E K (qd_at pc p v) p' l m = qd_cost F E K pc p' l m := by
  unfold qd_cost
  rw [qd_at_n (by omega)]
theorem qd_hd_pos (F E l : Nat) : 1 ≤ qd_hd F E l := by unfold qd_hd; omega
/-- the choice of the final sequence -/
theorem qd_PL_fin {S : Nat → Int32} {n F E K T : Nat} {pc pl pm pd : Nat → Nat} {p l0 m0 c l m d : Nat}
    (h : qd_best S n F E K pc p l0 m0 c l m d) (hn : n < p + l0 + K) (hK : 1 ≤ K) (hf : qd_fin n T p) (hc : qd_hd F E (n - p) < c) :
    qd_PL S n F E K T (qd_at pc p (qd_hd F E (n - p))) (qd_at pl p (n - p)) (qd_at pm p 0) (qd_at pd p 0) p := by
  have ha := qd_best_all h hn
  have h1 := h.1
  have hp := qd_hd_pos F E (n - p)
  have e : ∀ a b, qd_feas S n K p a b → qd_cost F E K (qd_at pc p (qd_hd F E (n - p))) p a b = qd_cost F E K pc p a b := by
    intro a b ⟨g1, g2, g3⟩
    exact qd_cost_at (by omega)
  unfold qd_PL
  rw [qd_at_s, qd_at_s, qd_at_s, qd_at_s]
  refine ⟨by omega, hp, fun a b g => ?_, fun _ => Nat.le_refl _, Or.inr (Or.inl ⟨rfl, rfl, hf, rfl, fun a b g => ?_⟩)⟩
  · rw [e a b g]; have := ha a b g; omega
  · rw [e a b g]; have := ha a b g; omega
/-- what was best stays -/
theorem qd_PL_best {S : Nat → Int32} {n F E K T : Nat} {pc pl pm pd : Nat → Nat} {p l0 m0 c l m d : Nat}
    (h : qd_best S n F E K pc p l0 m0 c l m d) (hn : n < p + l0 + K) (hK : 1 ≤ K) (hf : qd_fin n T p → c ≤ qd_hd F E (n - p)) :
    qd_PL S n F E K T (qd_at pc p c) (qd_at pl p l) (qd_at pm p m) (qd_at pd p d) p := by
  have ha := qd_best_all h hn
  have e : ∀ a b, qd_feas S n K p a b → qd_cost F E K (qd_at pc p c) p a b = qd_cost F E K pc p a b := by
    intro a b ⟨g1, g2, g3⟩
    exact qd_cost_at (by omega)
  obtain ⟨h1, h2, h3⟩ := h
  unfold qd_PL
  rw [qd_at_s, qd_at_s, qd_at_s, qd_at_s]
  refine ⟨h1, ?_, fun a b g => ?_, hf, ?_⟩
  · rcases h3 with h3 | ⟨g, h3, _⟩
    · omega
    · rw [h3]; unfold qd_cost qd_hd; omega
  · rw [e a b g]; exact ha a b g
  · rcases h3 with h3 | ⟨g, h3, h4, h5, h6⟩
    · exact Or.inl h3
    · refine Or.inr (Or.inr ⟨g, h4, ?_, h5, fun a b hb g' => ?_⟩)
      · rw [e l m g]; exact h3
      · rw [e a b g']; exact h6 a b hb g'
theorem qd_PL_at {S : Nat → Int32} {n F E K T : Nat} {pc pl pm pd : Nat → Nat} {p p' c l m d : Nat} (hp : p < p')
    (h : qd_PL S n F E K T pc pl pm pd p') : qd_PL S n F E K T (qd_at pc p c) (qd_at pl p l) (qd_at pm p m) (qd_at pd p d) p' := by
  have e : ∀ a b, qd_cost F E K (qd_at pc p c) p' a b = qd_cost F E K pc p' a b := fun a b => qd_cost_at (by omega)
  unfold qd_PL at h ⊢
  rw [qd_at_n (by omega), qd_at_n (by omega), qd_at_n (by omega), qd_at_n (by omega)]
  simp only [e]
  exact h
/-! the reference's table -/
def qd_yok (S : Nat → Int32) (n F E K : Nat) (en : Nat → Nat → Prop) (p c l m : Nat) : Prop :=
  qd_feas S n K p l m ∧ ∃ w, 0 < w ∧ qd_hd F E l + (2 + qd_ext F E (m - K)) + w = c ∧ en (p + l + m) w
def qd_yfin (n F E T p c : Nat) : Prop := qd_fin n T p ∧ qd_hd F E (n - p) = c
def qd_Loc (S : Nat → Int32) (n F E K T : Nat) (en : Nat → Nat → Prop) (c0 : Nat) : Prop :=
  ∀ p c, p ≤ n → 1 ≤ c → c ≤ c0 → (en p c ↔ (qd_yfin n F E T p c ∨ ∃ l m, qd_yok S n F E K en p c l m))
theorem qd_A {S : Nat → Int32} {n F E K T c0 : Nat} {pc pl pm pd : Nat → Nat} {en : Nat → Nat → Prop}
    (hP : ∀ p, p ≤ n → qd_PL S n F E K T pc pl pm pd p) (hL : qd_Loc S n F E K T en c0) :
    ∀ c p, p ≤ n → 1 ≤ c → c ≤ c0 → en p c → pc p ≤ c := by
  intro c
  induction c using Nat.strongRecOn with
  | ind c ih =>
    intro p hp h1 h2 he
    obtain ⟨_, _, q3, q4, _⟩ := hP p hp
    rcases (hL p c hp h1 h2).mp he with ⟨g1, g2⟩ | ⟨l, m, g, w, w0, w1, w2⟩
    · have := q4 g1
      omega
    · have a := q3 l m g
      have b := ih w (by omega) (p + l + m) g.2.1 w0 (by omega) w2
      unfold qd_cost at a
      omega
theorem qd_B {S : Nat → Int32} {n F E K T c0 : Nat} {pc pl pm pd : Nat → Nat} {en : Nat → Nat → Prop}
    (hP : ∀ p, p ≤ n → qd_PL S n F E K T pc pl pm pd p) (hL : qd_Loc S n F E K T en c0) (h0 : c0 < 1000000) :
    ∀ c p, p ≤ n → pc p = c → c ≤ c0 → en p c := by
  intro c
  induction c using Nat.strongRecOn with
  | ind c ih =>
    intro p hp h1 h2
    obtain ⟨_, q2, _, _, q5⟩ := hP p hp
    refine (hL p c hp (by omega) h2).mpr ?_
    rcases q5 with q5 | ⟨_, _, g3, g4, _⟩ | ⟨g, _, g3, _, _⟩
    · omega
    · exact Or.inl ⟨g3, by omega⟩
    · refine Or.inr ⟨pl p, pm p, g, pc (p + pl p + pm p), ?_, ?_, ?_⟩
      · exact (hP _ g.2.1).2.1
      · unfold qd_cost at g3; omega
      · have hh := qd_hd_pos F E (pl p)
        unfold qd_cost at g3
        exact ih _ (by omega) (p + pl p + pm p) g.2.1 rfl (by omega)
theorem qd_yok_iff {S : Nat → Int32} {n F E K T c0 : Nat} {pc pl pm pd : Nat → Nat} {en : Nat → Nat → Prop}
    (hP : ∀ p, p ≤ n → qd_PL S n F E K T pc pl pm pd p) (hL : qd_Loc S n F E K T en c0) (h0 : c0 < 1000000)
    {p : Nat} (hp : p ≤ n) (hc : pc p ≤ c0) (a b : Nat) :
    qd_yok S n F E K en p (pc p) a b ↔ (qd_feas S n K p a b ∧ qd_cost F E K pc p a b = pc p) := by
  constructor
  · intro ⟨g, w, w0, w1, w2⟩
    refine ⟨g, ?_⟩
    have h1 := qd_A hP hL w (p + a + b) g.2.1 w0 (by omega) w2
    have h2 := (hP p hp).2.2.1 a b g
    unfold qd_cost at h2 ⊢
    omega
  · intro ⟨g, e⟩
    have hh := qd_hd_pos F E a
    unfold qd_cost at e
    exact ⟨g, pc (p + a + b), (hP _ g.2.1).2.1, by omega, qd_B hP hL h0 _ (p + a + b) g.2.1 rfl (by omega)⟩
/-- the first among the cheapest is the first that fits -/
theorem qd_pick {S : Nat → Int32} {n F E K T c0 : Nat} {pc pl pm pd : Nat → Nat} {en : Nat → Nat → Prop}
    (hP : ∀ p, p ≤ n → qd_PL S n F E K T pc pl pm pd p) (hL : qd_Loc S n F E K T en c0) (h0 : c0 < 1000000)
    {p : Nat} (hp : p ≤ n) (hc : pc p ≤ c0) {l m : Nat} (h : qd_yok S n F E K en p (pc p) l m)
    (hf : ∀ a b, qd_bef a b l m → ¬ qd_yok S n F E K en p (pc p) a b) :
    pl p = l ∧ pm p = m ∧ pd p = qd_D S (p + l) m := by
  have iff := qd_yok_iff hP hL h0 hp hc
  obtain ⟨g, e⟩ := (iff l m).mp h
  rcases (hP p hp).2.2.2.2 with q5 | ⟨_, _, _, _, q5⟩ | ⟨g1, _, g3, g4, g5⟩
  · omega
  · have := q5 l m g
    omega
  · have n1 : ¬ qd_bef l m (pl p) (pm p) := fun z => by
      have := g5 l m z g
      omega
    have n2 : ¬ qd_bef (pl p) (pm p) l m := fun z => hf _ _ z ((iff _ _).mpr ⟨g1, g3.symm⟩)
    unfold qd_bef at n1 n2
    have e1 : pl p = l := by omega
    have e2 : pm p = m := by omega
    exact ⟨e1, e2, by rw [g4, e1, e2]⟩
theorem qd_pickF {S : Nat → Int32} {n F E K T c0 : Nat} {pc pl pm pd : Nat → Nat} {en : Nat → Nat → Prop}
    (hP : ∀ p, p ≤ n → qd_PL S n F E K T pc pl pm pd p) (hL : qd_Loc S n F E K T en c0) (h0 : c0 < 1000000)
    {p : Nat} (hp : p ≤ n) (hc : pc p ≤ c0)
    (hf : ∀ a b, ¬ qd_yok S n F E K en p (pc p) a b) : pl p = n - p ∧ pm p = 0 ∧ pc p = qd_hd F E (n - p) := by
  have iff := qd_yok_iff hP hL h0 hp hc
  rcases (hP p hp).2.2.2.2 with q5 | ⟨g1, g2, _, g4, _⟩ | ⟨g1, _, g3, _, _⟩
  · omega
  · exact ⟨g2, g1, g4⟩
  · exact absurd ((iff _ _).mpr ⟨g1, g3.symm⟩) (hf _ _)
/-- the shortest is the planned cost at the front -/
theorem qd_short {S : Nat → Int32} {n F E K T c0 : Nat} {pc pl pm pd : Nat → Nat} {en : Nat → Nat → Prop}
    (hP : ∀ p, p ≤ n → qd_PL S n F E K T pc pl pm pd p) (hL : qd_Loc S n F E K T en c0) (h0 : c0 < 1000000) (h1 : 1 ≤ c0)
    (he : en 0 c0) (hm : ∀ c, 1 ≤ c → c < c0 → ¬ en 0 c) : pc 0 = c0 := by
  have a := qd_A hP hL c0 0 (Nat.zero_le _) h1 (Nat.le_refl _) he
  have b := qd_B hP hL h0 (pc 0) 0 (Nat.zero_le _) rfl a
  have q := (hP 0 (Nat.zero_le _)).2.1
  by_cases c : pc 0 < c0
  · exact absurd b (hm _ q c)
  · omega
/-! bounds -/
theorem qd_ext_le {F E x : Nat} (hE : 2 ≤ E) : qd_ext F E x ≤ (x - F) / 2 + 1 := by
  unfold qd_ext
  have := Nat.div_le_div_left hE (by decide : 0 < 2) (a := x - F)
  split
  · omega
  · omega
theorem qd_ext16 {F E x : Nat} (hE : 2 ≤ E) (hF : 2 ≤ F) (hx : x ≤ 32) : qd_ext F E x ≤ 16 := by
  have := qd_ext_le (F := F) (x := x) hE
  omega
theorem qd_hd49 {F E l : Nat} (hE : 2 ≤ E) (hF : 2 ≤ F) (hl : l ≤ 32) : qd_hd F E l ≤ 49 := by
  have := qd_ext16 (F := F) (x := l) hE hF hl
  unfold qd_hd
  omega
theorem qd_ext_lt {F E x : Nat} (h : x < F) : qd_ext F E x = 0 := if_pos h
theorem qd_ext_ge {F E x : Nat} (h : F ≤ x) : qd_ext F E x = (x - F) / E + 1 := if_neg (by omega)
theorem qd_ext_i {F E x i : Nat} (hE : 0 < E) (h : F ≤ x) : i * E ≤ x - F ↔ i < qd_ext F E x := by
  rw [qd_ext_ge h, Nat.lt_add_one_iff, Nat.le_div_iff_mul_le hE]
/-! cells written in a row -/
def qd_fill (a : Nat → Int32) (b : Nat) (g : Nat → Int32) (k : Nat) : Nat → Int32 := fun j => if b ≤ j ∧ j < b + k then g (j - b) else a j
theorem qd_fill_0 (a : Nat → Int32) (b : Nat) (g : Nat → Int32) : qd_fill a b g 0 = a := by
  funext j
  exact if_neg (by omega)
theorem qd_fill_s (a : Nat → Int32) (b : Nat) (g : Nat → Int32) (k : Nat) : upd (qd_fill a b g k) (b + k) (g k) = qd_fill a b g (k + 1) := by
  funext j
  unfold upd qd_fill
  by_cases h : j = b + k
  · rw [if_pos h, if_pos (by omega), h, Nat.add_sub_cancel_left]
  · rw [if_neg h]
    by_cases h2 : b ≤ j ∧ j < b + k
    · rw [if_pos h2, if_pos (by omega)]
    · rw [if_neg h2, if_neg (by omega)]
theorem qd_fill_in {a : Nat → Int32} {b : Nat} {g : Nat → Int32} {k j : Nat} (h : j < k) : qd_fill a b g k (b + j) = g j := by
  unfold qd_fill
  rw [if_pos (by omega), Nat.add_sub_cancel_left]
theorem qd_fill_out {a : Nat → Int32} {b : Nat} {g : Nat → Int32} {k j : Nat} (h : j < b ∨ b + k ≤ j) : qd_fill a b g k j = a j := if_neg (by omega)
def qd_xg (F E x : Nat) (i : Nat) : Int32 := if i < (x - F) / E then nI E else nI ((x - F) % E)
/-- the bytes -/
def qd_by (a : Nat → Int32) : Prop := ∀ j, ∃ c, c < 256 ∧ a j = nI c
theorem qd_by_0 : qd_by (fun _ => 0) := fun _ => ⟨0, by decide, rfl⟩
theorem qd_by_u {a : Nat → Int32} {k c : Nat} (h : qd_by a) (hc : c < 256) : qd_by (upd a k (nI c)) := by
  intro j
  by_cases e : j = k
  · exact ⟨c, hc, by rw [e, pk_us]⟩
  · rw [pk_un e]; exact h j
theorem qd_by_u' {a : Nat → Int32} {k : Nat} {x : Int32} (h : qd_by a) (hc : ∃ c, c < 256 ∧ x = nI c) : qd_by (upd a k x) := by
  obtain ⟨c, hc, rfl⟩ := hc
  exact qd_by_u h hc
theorem qd_by_fill {a g : Nat → Int32} {b k : Nat} (h : qd_by a) (hg : ∀ i, i < k → ∃ c, c < 256 ∧ g i = nI c) : qd_by (qd_fill a b g k) := by
  intro j
  by_cases e : b ≤ j ∧ j < b + k
  · unfold qd_fill
    rw [if_pos e]
    exact hg _ (by omega)
  · unfold qd_fill
    rw [if_neg e]
    exact h j
theorem qd_255 (v : Int32) : ∃ c, c < 256 ∧ v &&& 255 = nI c := pk_andE v (m := 255) 8 (by decide)
theorem qd_and {c : Nat} (h : c < 256) : nI c &&& 255 = nI c := by
  rw [pk_andN (by omega) (m := 255) 8 (by decide)]
  exact congrArg nI (Nat.mod_eq_of_lt h)
theorem qd_and' {x : Int32} (h : ∃ c, c < 256 ∧ x = nI c) : x &&& 255 = x := by
  obtain ⟨c, hc, rfl⟩ := h
  exact qd_and hc
/-! the reference's search, option by option -/
def qd_none (S : Nat → Int32) (n F E K : Nat) (en : Nat → Nat → Prop) (p c l0 m0 : Nat) : Prop :=
  ∀ a b, qd_bef a b l0 m0 → ¬ qd_yok S n F E K en p c a b
theorem qd_none_0 {S : Nat → Int32} {n F E K : Nat} {en : Nat → Nat → Prop} {p c m0 : Nat} (h : n ≤ p + m0) : qd_none S n F E K en p c 0 m0 := by
  intro a b hb hy
  obtain ⟨⟨h1, h2, h3⟩, _⟩ := hy
  unfold qd_bef at hb
  omega
theorem qd_none_skip {S : Nat → Int32} {n F E K : Nat} {en : Nat → Nat → Prop} {p c l0 m0 : Nat} (h : qd_none S n F E K en p c l0 m0)
    (hs : ¬ qd_yok S n F E K en p c l0 m0) (h0 : 0 < m0) : qd_none S n F E K en p c l0 (m0 - 1) := by
  intro a b hb
  by_cases hh : qd_bef a b l0 m0
  · exact h a b hh
  · have e : a = l0 ∧ b = m0 := by
      unfold qd_bef at hb hh
      omega
    rw [e.1, e.2]
    exact hs
theorem qd_none_next {S : Nat → Int32} {n F E K : Nat} {en : Nat → Nat → Prop} {p c l0 m0 m1 : Nat} (h : qd_none S n F E K en p c l0 m0)
    (hK : m0 < K) (hn : n ≤ p + (l0 + 1) + m1) : qd_none S n F E K en p c (l0 + 1) m1 := by
  intro a b hb hy
  refine h a b ?_ hy
  obtain ⟨⟨h1, h2, h3⟩, _⟩ := hy
  unfold qd_bef at hb ⊢
  omega
theorem qd_none_all {S : Nat → Int32} {n F E K : Nat} {en : Nat → Nat → Prop} {p c l0 m0 : Nat} (h : qd_none S n F E K en p c l0 m0)
    (hn : n < p + l0 + K) : ∀ a b, ¬ qd_yok S n F E K en p c a b := by
  intro a b hy
  refine h a b ?_ hy
  obtain ⟨⟨h1, h2, h3⟩, _⟩ := hy
  unfold qd_bef
  omega
def qd_en (EN : Nat → Int32) (p c : Nat) : Prop := ¬ EN (p * 64 + c) = 0
def qd_rhs (S : Nat → Int32) (n F E K T : Nat) (en : Nat → Nat → Prop) (p c : Nat) : Prop := qd_yfin n F E T p c ∨ ∃ l m, qd_yok S n F E K en p c l m
theorem qd_yok_congr {S : Nat → Int32} {n F E K : Nat} {en en' : Nat → Nat → Prop} {p c l m : Nat} (h : ∀ q w, q ≤ n → w < c → (en q w ↔ en' q w)) :
    qd_yok S n F E K en p c l m ↔ qd_yok S n F E K en' p c l m := by
  constructor
  · intro ⟨g, w, w0, w1, w2⟩
    have hh := qd_hd_pos F E l
    exact ⟨g, w, w0, w1, (h _ _ g.2.1 (by omega)).mp w2⟩
  · intro ⟨g, w, w0, w1, w2⟩
    have hh := qd_hd_pos F E l
    exact ⟨g, w, w0, w1, (h _ _ g.2.1 (by omega)).mpr w2⟩
theorem qd_rhs_congr {S : Nat → Int32} {n F E K T : Nat} {en en' : Nat → Nat → Prop} {p c : Nat} (h : ∀ q w, q ≤ n → w < c → (en q w ↔ en' q w)) :
    qd_rhs S n F E K T en p c ↔ qd_rhs S n F E K T en' p c := by
  unfold qd_rhs
  simp only [qd_yok_congr h]
/-- columns below c hold; column c is filled up to p -/
def qd_col (S : Nat → Int32) (n F E K T : Nat) (EN : Nat → Int32) (c p : Nat) : Prop :=
  qd_Loc S n F E K T (qd_en EN) (c - 1) ∧ ∀ q, q < p → (qd_en EN q c ↔ qd_rhs S n F E K T (qd_en EN) q c)
theorem qd_col_s {S : Nat → Int32} {n F E K T : Nat} {EN : Nat → Int32} {c p : Nat} {v : Int32} (hn : n ≤ 32) (hc : 1 ≤ c) (hc2 : c < 64) (hp : p ≤ n)
    (h : qd_col S n F E K T EN c p) (hv : ¬ v = 0 ↔ qd_rhs S n F E K T (qd_en EN) p c) : qd_col S n F E K T (upd EN (p * 64 + c) v) c (p + 1) := by
  have ag : ∀ q w, w < c → (qd_en (upd EN (p * 64 + c) v) q w ↔ qd_en EN q w) := by
    intro q w hw
    unfold qd_en
    rw [pk_un (by omega)]
  have cg : ∀ q d, d ≤ c → (qd_rhs S n F E K T (qd_en (upd EN (p * 64 + c) v)) q d ↔ qd_rhs S n F E K T (qd_en EN) q d) :=
    fun q d hd => qd_rhs_congr (fun q' w _ hw => ag q' w (by omega))
  obtain ⟨h1, h2⟩ := h
  refine ⟨fun q d hq hd hdc => ?_, fun q hq => ?_⟩
  · have a := ag q d (by omega)
    have b := cg q d (by omega)
    unfold qd_rhs at b
    rw [a, b]
    exact h1 q d hq hd hdc
  · rw [cg q c (Nat.le_refl _)]
    by_cases e : q = p
    · rw [e, ← hv]
      unfold qd_en
      rw [pk_us]
    · rw [← h2 q (by omega)]
      unfold qd_en
      rw [pk_un (by omega)]
theorem qd_col_next {S : Nat → Int32} {n F E K T : Nat} {EN : Nat → Int32} {c : Nat} (hc : 1 ≤ c) (h : qd_col S n F E K T EN c (n + 1)) : qd_Loc S n F E K T (qd_en EN) c := by
  intro p d hp hd hdc
  by_cases e : d = c
  · rw [e]
    exact h.2 p (by omega)
  · exact h.1 p d hp hd (by omega)
theorem qd_col_0 {S : Nat → Int32} {n F E K T : Nat} {EN : Nat → Int32} {c : Nat} (h : qd_Loc S n F E K T (qd_en EN) (c - 1)) : qd_col S n F E K T EN c 0 :=
  ⟨h, fun q hq => absurd hq (by omega)⟩
theorem qd_Loc_0 {S : Nat → Int32} {n F E K T : Nat} {en : Nat → Nat → Prop} : qd_Loc S n F E K T en 0 := fun p c _ h1 h2 => absurd h2 (by omega)
theorem qd_Loc_end {S : Nat → Int32} {n F E K T c : Nat} {en : Nat → Nat → Prop} (h : qd_Loc S n F E K T en c) (hc : c = qd_hd F E n) (h1 : 1 ≤ c) : en 0 c :=
  (h 0 c (Nat.zero_le _) h1 (Nat.le_refl _)).mpr (Or.inl ⟨Or.inl rfl, by rw [Nat.sub_zero]; exact hc.symm⟩)
/-! every int is some nI; the same store twice -/
theorem qd_of32 (x : Int32) : ∃ n, x = nI n := by
  refine ⟨x.toBitVec.toNat, ?_⟩
  apply Int32.toBitVec_inj.mp
  apply BitVec.eq_of_toNat_eq
  show _ = (BitVec.ofNat 32 _).toNat
  rw [BitVec.toNat_ofNat]
  exact (Nat.mod_eq_of_lt x.toBitVec.isLt).symm
theorem qd_uu (f : Nat → Int32) (k : Nat) (x y : Int32) : upd (upd f k x) k y = upd f k y := by
  funext j
  unfold upd
  split <;> rfl
theorem qd_ue (f : Nat → Int32) (k : Nat) : upd f k (f k) = f := by
  funext j
  unfold upd
  split
  · rename_i h; rw [h]
  · rfl
end
section
/-! the pure reader and the pure writer -/
def qr_c (B : Nat → Int32) (j : Nat) : Nat := (B j).toNatClampNeg
theorem qr_ce {B : Nat → Int32} (hB : qd_by B) (j : Nat) : B j = nI (qr_c B j) ∧ qr_c B j < 256 := by
  obtain ⟨c, hc, e⟩ := hB j
  have : qr_c B j = c := by unfold qr_c; rw [e]; exact nI_clamp (by omega)
  rw [this]
  exact ⟨e, hc⟩
def qr_num (B : Nat → Int32) (E : Nat) : Nat → Nat → Nat → Nat × Nat × Nat
  | 0, a, x => (3, x, a)
  | g + 1, a, x => if E < qr_c B a then (5, x, a + 1) else if qr_c B a < E then (0, x + qr_c B a, a + 1) else qr_num B E g (a + 1) (x + qr_c B a)
def qr_number (B : Nat → Int32) (bl F E a x : Nat) : Nat × Nat × Nat := if x < F then (0, x, a) else qr_num B E (bl - a) a x
def qr_copy (res : Nat → Int32) (len d : Nat) : Nat → (Nat → Int32)
  | 0 => res
  | i + 1 => upd (qr_copy res len d i) (len + i) (qr_copy res len d i (len + i - d))
abbrev qr_R : Type := Nat × Nat × (Nat → Int32)
def qr_m2 (K : Nat) (k : Nat → Nat → (Nat → Int32) → qr_R) (len d : Nat) (res : Nat → Int32) (nx : Nat × Nat × Nat) : qr_R :=
  if nx.1 ≠ 0 then (nx.1, len, res) else if 32 - len < K + nx.2.1 then (6, len, res) else k nx.2.2 (len + (K + nx.2.1)) (qr_copy res len d (K + nx.2.1))
def qr_m1 (B : Nat → Int32) (bl F E K : Nat) (k : Nat → Nat → (Nat → Int32) → qr_R) (a len mf : Nat) (res : Nat → Int32) : qr_R :=
  if bl - a < 2 then (3, len, res) else if qr_c B a + 256 * qr_c B (a + 1) = 0 ∨ len < qr_c B a + 256 * qr_c B (a + 1) then (8, len, res)
  else qr_m2 K k len (qr_c B a + 256 * qr_c B (a + 1)) res (qr_number B bl F E (a + 2) mf)
def qr_l1 (B : Nat → Int32) (bl F E K T : Nat) (k : Nat → Nat → (Nat → Int32) → qr_R) (s len mf : Nat) (res : Nat → Int32) (nl : Nat × Nat × Nat) : qr_R :=
  if nl.1 ≠ 0 then (nl.1, len, res) else if bl - nl.2.2 < nl.2.1 then (3, len, res) else if 32 - len < nl.2.1 then (6, len, res)
  else if bl ≤ nl.2.2 + nl.2.1 then
    (if mf ≠ 0 ∨ (0 < s ∧ nl.2.1 < T) then (7, len + nl.2.1, qd_fill res len (fun i => B (nl.2.2 + i)) nl.2.1) else (0, len + nl.2.1, qd_fill res len (fun i => B (nl.2.2 + i)) nl.2.1))
  else qr_m1 B bl F E K k (nl.2.2 + nl.2.1) (len + nl.2.1) mf (qd_fill res len (fun i => B (nl.2.2 + i)) nl.2.1)
def qr_read (B : Nat → Int32) (bl F E K T : Nat) : Nat → Nat → Nat → Nat → (Nat → Int32) → qr_R
  | 0, _, _, len, res => (3, len, res)
  | g + 1, s, a, len, res => if bl ≤ a then (3, len, res) else if F < qr_c B a / 16 ∨ F < qr_c B a % 16 then (4, len, res)
    else qr_l1 B bl F E K T (fun a' len' res' => qr_read B bl F E K T g (s + 1) a' len' res') s len (qr_c B a % 16) res (qr_number B bl F E (a + 1) (qr_c B a / 16))
/-- the answer as the program gives it -/
def qr_ans (code v : Nat) : Int32 := if code = 0 then nI v else -nI code
theorem qr_ans0 (v : Nat) : qr_ans 0 v = nI v := if_pos rfl
theorem qr_ansn {c v : Nat} (h : c ≠ 0) : qr_ans c v = -nI c := if_neg h
theorem qr_neg {c : Nat} (h : c ≠ 0) (h8 : c ≤ 8) : -nI c < 0 := by
  have : ∀ c, c ≤ 8 → c ≠ 0 → -nI c < 0 := by decide
  exact this c h8 h
theorem qr_ans_neg {c v : Nat} (h : c ≠ 0) (h8 : c ≤ 8) : qr_ans c v < 0 := by
  rw [qr_ansn h]
  exact qr_neg h h8
theorem qr_num_b {B : Nat → Int32} {E : Nat} (hB : qd_by B) : ∀ g a x, ((qr_num B E g a x).1 = 0 ∨ (qr_num B E g a x).1 = 3 ∨ (qr_num B E g a x).1 = 5) ∧ a ≤ (qr_num B E g a x).2.2 ∧ (qr_num B E g a x).2.2 ≤ a + g ∧ (qr_num B E g a x).2.1 ≤ x + 256 * g := by
  intro g
  induction g with
  | zero => intro a x; exact ⟨Or.inr (Or.inl rfl), Nat.le_refl _, Nat.le_refl _, Nat.le_refl _⟩
  | succ g ih =>
    intro a x
    have hc := (qr_ce hB a).2
    rw [qr_num]
    by_cases h1 : E < qr_c B a
    · rw [if_pos h1]
      exact ⟨Or.inr (Or.inr rfl), by dsimp only; omega, by dsimp only; omega, by dsimp only; omega⟩
    · rw [if_neg h1]
      by_cases h2 : qr_c B a < E
      · rw [if_pos h2]
        exact ⟨Or.inl rfl, by dsimp only; omega, by dsimp only; omega, by dsimp only; omega⟩
      · rw [if_neg h2]
        obtain ⟨q1, q2, q3, q4⟩ := ih (a + 1) (x + qr_c B a)
        exact ⟨q1, by omega, by omega, by omega⟩
theorem qr_number_b {B : Nat → Int32} {bl F E a x : Nat} (hB : qd_by B) (ha : a ≤ bl) (hb : bl ≤ 64) : ((qr_number B bl F E a x).1 = 0 ∨ (qr_number B bl F E a x).1 = 3 ∨ (qr_number B bl F E a x).1 = 5) ∧ a ≤ (qr_number B bl F E a x).2.2 ∧ (qr_number B bl F E a x).2.2 ≤ bl ∧ (qr_number B bl F E a x).2.1 ≤ x + 16384 := by
  unfold qr_number
  by_cases h : x < F
  · rw [if_pos h]
    exact ⟨Or.inl rfl, Nat.le_refl _, ha, by dsimp only; omega⟩
  · rw [if_neg h]
    obtain ⟨q1, q2, q3, q4⟩ := qr_num_b (E := E) hB (bl - a) a x
    exact ⟨q1, q2, by omega, by omega⟩
theorem qr_by_copy {res : Nat → Int32} {len d : Nat} (h : qd_by res) : ∀ m, qd_by (qr_copy res len d m) := by
  intro m
  induction m with
  | zero => exact h
  | succ m ih => exact qd_by_u' ih (ih _)
/-! the writer -/
def qw_fld (F x : Nat) : Nat := if x < F then x else F
theorem qw_fld_le {F x : Nat} : qw_fld F x ≤ F := by unfold qw_fld; split <;> omega
def qw_tok (F K l m : Nat) : Nat := 16 * qw_fld F l + (if m = 0 then 0 else qw_fld F (m - K))
theorem qw_tok_lt {F K l m : Nat} (hF : F ≤ 15) : qw_tok F K l m < 256 := by
  unfold qw_tok
  have h1 := qw_fld_le (F := F) (x := l)
  have h2 := qw_fld_le (F := F) (x := m - K)
  split <;> omega
def qw_head (S : Nat → Int32) (F E : Nat) (blk : Nat → Int32) (b p l tok : Nat) : Nat → Int32 :=
  qd_fill (qd_fill (upd blk b (nI tok)) (b + 1) (qd_xg F E l) (qd_ext F E l)) (b + 1 + qd_ext F E l) (fun i => S (p + i)) l
def qw_mat (F E : Nat) (blk : Nat → Int32) (b d x : Nat) : Nat → Int32 :=
  qd_fill (upd (upd blk b (nI (d % 256))) (b + 1) (nI (d / 256))) (b + 2) (qd_xg F E x) (qd_ext F E x)
def qw (S : Nat → Int32) (F E K : Nat) (pl pm pd : Nat → Nat) : Nat → Nat → Nat → (Nat → Int32) → Nat × (Nat → Int32)
  | 0, _, b, blk => (b, blk)
  | g + 1, p, b, blk => if pm p = 0 then (b + qd_hd F E (pl p), qw_head S F E blk b p (pl p) (qw_tok F K (pl p) (pm p)))
    else qw S F E K pl pm pd g (p + pl p + pm p) (b + qd_hd F E (pl p) + (2 + qd_ext F E (pm p - K)))
      (qw_mat F E (qw_head S F E blk b p (pl p) (qw_tok F K (pl p) (pm p))) (b + qd_hd F E (pl p)) (pd p) (pm p - K))
theorem qd_xg_by {F E x i : Nat} (h1 : 1 ≤ E) (h2 : E ≤ 255) : ∃ c, c < 256 ∧ qd_xg F E x i = nI c := by
  unfold qd_xg
  split
  · exact ⟨E, by omega, rfl⟩
  · exact ⟨(x - F) % E, by have := Nat.mod_lt (x - F) (y := E) (by omega); omega, rfl⟩
theorem qw_head_by {S : Nat → Int32} {F E : Nat} {blk : Nat → Int32} {b p l tok : Nat} (hS : qd_by S) (hb : qd_by blk) (h1 : 1 ≤ E) (h2 : E ≤ 255) (ht : tok < 256) : qd_by (qw_head S F E blk b p l tok) :=
  qd_by_fill (qd_by_fill (qd_by_u hb ht) (fun _ _ => qd_xg_by h1 h2)) (fun i _ => hS (p + i))
theorem qw_mat_by {F E : Nat} {blk : Nat → Int32} {b d x : Nat} (hb : qd_by blk) (h1 : 1 ≤ E) (h2 : E ≤ 255) (hd : d < 65536) : qd_by (qw_mat F E blk b d x) :=
  qd_by_fill (qd_by_u (qd_by_u hb (by omega)) (by omega)) (fun _ _ => qd_xg_by h1 h2)
theorem qw_ok {S : Nat → Int32} {n F E K T : Nat} {pc pl pm pd : Nat → Nat} (hP : ∀ p, p ≤ n → qd_PL S n F E K T pc pl pm pd p) (hn : n ≤ 32) (hK : 1 ≤ K)
    (hS : qd_by S) (h1 : 1 ≤ E) (h2 : E ≤ 255) (hF : F ≤ 15) :
    ∀ g p b blk, p ≤ n → pc p < 1000000 → n - p < g → (qw S F E K pl pm pd g p b blk).1 = b + pc p ∧ (qd_by blk → qd_by (qw S F E K pl pm pd g p b blk).2) ∧ (∀ j, j < b → (qw S F E K pl pm pd g p b blk).2 j = blk j) := by
  intro g
  induction g with
  | zero => intro p b blk hp hc hg; omega
  | succ g ih =>
    intro p b blk hp hc hg
    have q5 := (hP p hp).2.2.2.2
    have kh : ∀ j, j < b → qw_head S F E blk b p (pl p) (qw_tok F K (pl p) (pm p)) j = blk j := by
      intro j hj
      unfold qw_head
      rw [qd_fill_out (by omega), qd_fill_out (by omega), pk_un (by omega)]
    rcases q5 with q5 | ⟨g1, g2, g3, g4, _⟩ | ⟨g1, g2, g3, g4, _⟩
    · omega
    · have e : qw S F E K pl pm pd (g + 1) p b blk = (b + qd_hd F E (pl p), qw_head S F E blk b p (pl p) (qw_tok F K (pl p) (pm p))) := by
        rw [qw, if_pos g1]
      rw [e]
      exact ⟨by rw [g4, g2], fun h => qw_head_by hS h h1 h2 (qw_tok_lt hF), kh⟩
    · have hm := g1.1
      have e : qw S F E K pl pm pd (g + 1) p b blk = qw S F E K pl pm pd g (p + pl p + pm p) (b + qd_hd F E (pl p) + (2 + qd_ext F E (pm p - K)))
          (qw_mat F E (qw_head S F E blk b p (pl p) (qw_tok F K (pl p) (pm p))) (b + qd_hd F E (pl p)) (pd p) (pm p - K)) := by
        rw [qw, if_neg (by omega)]
      have hh := qd_hd_pos F E (pl p)
      have hd := qd_Dle S (p + pl p) (pm p)
      have h4 := g1.2.1
      unfold qd_cost at g3
      obtain ⟨i1, i2, i3⟩ := ih (p + pl p + pm p) (b + qd_hd F E (pl p) + (2 + qd_ext F E (pm p - K)))
          (qw_mat F E (qw_head S F E blk b p (pl p) (qw_tok F K (pl p) (pm p))) (b + qd_hd F E (pl p)) (pd p) (pm p - K)) g1.2.1 (by omega) (by omega)
      rw [e]
      refine ⟨by rw [i1]; omega, fun h => i2 (qw_mat_by (qw_head_by hS h h1 h2 (qw_tok_lt hF)) h1 h2 (by omega)), fun j hj => ?_⟩
      rw [i3 j (by omega)]
      unfold qw_mat
      rw [qd_fill_out (by omega), pk_un (by omega), pk_un (by omega)]
      exact kh j hj
end
section
/-! the component's planner -/
theorem qx_u {a : Nat → Int32} {k : Nat} {c : Int32} (h : k < 2 ^ 31 := by omega) : upd a (nI k).toNatClampNeg c = upd a k c := by rw [nI_clamp h]
theorem qx_g {a : Nat → Int32} {k : Nat} (h : k < 2 ^ 31 := by omega) : a (nI k).toNatClampNeg = a k := by rw [nI_clamp h]
theorem qx_uu {a : Nat → Int32} {k : Nat} {x y : Int32} (h : k < 2 ^ 31 := by omega) : upd (upd a k x) (nI k).toNatClampNeg y = upd a k y := by rw [nI_clamp h, qd_uu]
theorem qx_lim {n p K l : Nat} (hp : p ≤ n) (hn : n ≤ 32) (hK : K ≤ 6) (hl : l ≤ 64) : nI n - nI p - nI K < nI l ↔ n - p + 1 - K ≤ l := by
  rw [pk_sub hp, Int32.lt_iff_toInt_lt, pk_sub_toInt (by omega) (by omega), nI_toInt (by omega)]
  omega
section
variable {F E K T n bl ol : Nat} {rl cu : Int32} {S B O R PC PL PM PD : Nat → Int32}
theorem qx_ext {post : Int32 → Prop} {x : Nat} (hE : 2 ≤ E) (hE2 : E ≤ 255) (hF : F ≤ 15) (hx : x < 1000000) (h : post (nI (qd_ext F E x))) : wpX_extensionLength post (nI F, nI E, nI K, nI T, nI n, nI bl, nI ol, rl, cu, S, B, O, R, PC, PL, PM, PD) (nI x) := by
  by_cases c : F ≤ x
  · refine br_t (nI_le c (by omega)) ⟨nI_ne0 (by omega) (by omega), ?_⟩
    rw [pk_sub c, pk_div (by omega) (by omega) (by omega), nI_1]
    rw [qd_ext_ge c] at h
    exact h
  · refine br_f (nI_ge (by omega) (by omega)) ?_
    rw [qd_ext_lt (by omega)] at h
    exact h
theorem qx_rep3 {post : Int32 → Prop} {q m d : Nat} (hq : q + m ≤ 32) (hd : d ≤ q) (h1 : qd_rep S q m d → post 1) (h0 : ¬ qd_rep S q m d → post 0) :
    ∀ k i, i + k = m → (∀ j, j < i → S (q + j) = S (q + j - d)) → ∀ f, k < f → wX_repeatsAt_3 post (nI q) (nI m) (nI d) (nI F) (nI E) (nI K) (nI T) (nI n) (nI bl) (nI ol) rl cu S B O R PC PL PM PD f (nI (q + i)) := by
  intro k
  induction k with
  | zero =>
    intro i hi hr f hf
    obtain ⟨f, rfl⟩ : ∃ f', f = f' + 1 := ⟨f - 1, by omega⟩
    have e : nI q + nI m ≤ nI (q + i) := by rw [nI_add]; exact nI_le (by omega) (by omega)
    exact br_t e (h1 (fun j hj => hr j (by omega)))
  | succ k ih =>
    intro i hi hr f hf
    obtain ⟨f, rfl⟩ : ∃ f', f = f' + 1 := ⟨f - 1, by omega⟩
    have e : ¬ nI q + nI m ≤ nI (q + i) := by rw [nI_add]; exact nI_ge (by omega) (by omega)
    have es : nI (q + i) - nI d = nI (q + i - d) := pk_sub (by omega)
    refine br_f e ⟨vp_in_nI (by omega) (by decide), by rw [es]; exact vp_in_nI (by omega) (by decide), ?_⟩
    rw [es, nI_clamp (by omega), nI_clamp (by omega)]
    by_cases c : S (q + i) = S (q + i - d)
    · exact br_t c (nm_r (nI_1 _) (ih (i + 1) (by omega) (lt_s hr c) f (by omega)))
    · exact br_f c (h0 (fun z => c (z i (by omega))))
theorem qx_rep {post : Int32 → Prop} {q m d : Nat} (hq : q + m ≤ 32) (hd : d ≤ q) (h1 : qd_rep S q m d → post 1) (h0 : ¬ qd_rep S q m d → post 0) :
    wpX_repeatsAt post (nI F, nI E, nI K, nI T, nI n, nI bl, nI ol, rl, cu, S, B, O, R, PC, PL, PM, PD) (nI q) (nI m) (nI d) :=
  ⟨m + 1, qx_rep3 hq hd h1 h0 m 0 (by omega) lt_0 (m + 1) (by omega)⟩
theorem qx_nd2 {post : Int32 → Prop} {q m : Nat} (hq : q + m ≤ 32) (h : post (nI (qd_D S q m))) :
    ∀ k d, d + k = q + 1 → 1 ≤ d → (∀ e, 1 ≤ e → e < d → ¬ qd_rep S q m e) → ∀ f, k < f → wX_nearestDistance_2 post (nI q) (nI m) (nI F) (nI E) (nI K) (nI T) (nI n) (nI bl) (nI ol) rl cu S B O R PC PL PM PD f (nI d) := by
  intro k
  induction k with
  | zero =>
    intro d hd h1 hr f hf
    obtain ⟨f, rfl⟩ : ∃ f', f = f' + 1 := ⟨f - 1, by omega⟩
    have e : qd_D S q m = 0 := qd_De (Or.inl ⟨rfl, fun e g1 g2 => hr e g1 (by omega)⟩)
    rw [e] at h
    exact br_t (nI_lt (by omega) (by omega)) h
  | succ k ih =>
    intro d hd h1 hr f hf
    obtain ⟨f, rfl⟩ : ∃ f', f = f' + 1 := ⟨f - 1, by omega⟩
    refine br_f (nI_nlt (by omega) (by omega)) (qx_rep hq (by omega) (fun y => ?_) (fun y => ?_))
    · have e : qd_D S q m = d := qd_De (Or.inr ⟨h1, by omega, y, hr⟩)
      rw [e] at h
      exact br_f (by decide) h
    · refine br_t rfl (nm_r (nI_1 d) (ih (d + 1) (by omega) (by omega) (fun e g1 g2 => ?_) f (by omega)))
      by_cases c : e = d
      · rw [c]; exact y
      · exact hr e g1 (by omega)
theorem qx_nd {post : Int32 → Prop} {q m : Nat} (hq : q + m ≤ 32) (h : post (nI (qd_D S q m))) : wpX_nearestDistance post (nI F, nI E, nI K, nI T, nI n, nI bl, nI ol, rl, cu, S, B, O, R, PC, PL, PM, PD) (nI q) (nI m) :=
  ⟨q + 2, qx_nd2 hq h q 1 (by omega) (by omega) (fun e g1 g2 => absurd g2 (by omega)) (q + 2) (by omega)⟩
theorem qx_cost_le {pc : Nat → Nat} {p l m : Nat} (hE : 2 ≤ E) (hF : 2 ≤ F) (hl : l ≤ 32) (hm : m ≤ 32) (hc : pc (p + l + m) ≤ 1000000) : qd_cost F E K pc p l m ≤ 1000100 := by
  have h1 := qd_hd49 (F := F) (l := l) hE hF hl
  have h2 := qd_ext16 (F := F) (E := E) (x := m - K) hE hF (by omega)
  unfold qd_cost
  omega
theorem qx_pm23 {post : SX → Prop} {p l : Nat} {pc : Nat → Nat} (hE : 2 ≤ E) (hE2 : E ≤ 255) (hF2 : 2 ≤ F) (hF : F ≤ 15) (hK3 : 3 ≤ K) (hK : K ≤ 6) (hn : n ≤ 32)
    (hT : ∀ j, p < j → j ≤ n → PC j = nI (pc j) ∧ pc j ≤ 1000000)
    (hpost : ∀ mm c a b d, mm < K → qd_best S n F E K pc p l mm c a b d → post (nI F, nI E, nI K, nI T, nI n, nI bl, nI ol, rl, cu, S, B, O, R, upd PC p (nI c), upd PL p (nI a), upd PM p (nI b), upd PD p (nI d))) :
    ∀ k mm, mm + 1 = k + K → p + l + mm ≤ n → ∀ c a b d, qd_best S n F E K pc p l mm c a b d → ∀ f, k < f →
      wX_planMatches_23 post (nI p) (nI l) (nI (p + l)) (nI (qd_hd F E l)) (nI F) (nI E) (nI K) (nI T) (nI n) (nI bl) (nI ol) rl cu f (nI mm) S B O R (upd PC p (nI c)) (upd PL p (nI a)) (upd PM p (nI b)) (upd PD p (nI d)) := by
  intro k
  induction k with
  | zero =>
    intro mm hm hp c a b d hb f hf
    obtain ⟨f, rfl⟩ : ∃ f', f = f' + 1 := ⟨f - 1, by omega⟩
    exact br_t (nI_lt (by omega) (by omega)) (hpost mm c a b d (by omega) hb)
  | succ k ih =>
    intro mm hm hp c a b d hb f hf
    obtain ⟨f, rfl⟩ : ∃ f', f = f' + 1 := ⟨f - 1, by omega⟩
    have hc1 := hb.1
    obtain ⟨t1, t2⟩ := hT (p + l + mm) (by omega) (by omega)
    have hcost := qx_cost_le (F := F) (E := E) (K := K) (pc := pc) (p := p) (l := l) (m := mm) hE hF2 (by omega) (by omega) t2
    have ei : nI (p + l) + nI mm = nI (p + l + mm) := nI_add _ _
    refine br_f (nI_nlt (by omega) (by omega)) ?_
    rw [pk_sub (show K ≤ mm by omega)]
    refine qx_ext hE hE2 hF (by omega) ?_
    refine nm_r (nI_add 2 _) ⟨by rw [ei]; exact vp_in_nI (by omega) (by decide), nm_r (e' := nI (qd_cost F E K pc p l mm)) ?_ ⟨vp_in_nI (by omega) (by decide), ?_⟩⟩
    · rw [ei, nI_clamp (by omega), pk_un (by omega), t1, nI_add, nI_add]
      rfl
    · have eu : upd PC p (nI c) (nI p).toNatClampNeg = nI c := by rw [nI_clamp (by omega), pk_us]
      rw [eu]
      by_cases hc : c ≤ qd_cost F E K pc p l mm
      · exact br_t (nI_le hc (by omega)) (nm_r (sb_m1 (by omega)) (ih (mm - 1) (by omega) (by omega) c a b d (qd_best_skip hb (by omega) (by omega)) f (by omega)))
      · refine br_f (nI_ge (by omega) (by omega)) (qx_nd (by omega) ?_)
        have hDl := qd_Dle S (p + l) mm
        by_cases hD : qd_D S (p + l) mm = 0
        · rw [hD]
          exact br_t (by decide) (nm_r (sb_m1 (by omega)) (ih (mm - 1) (by omega) (by omega) c a b d (qd_best_skip hb (by omega) (by omega)) f (by omega)))
        · have hv : vp_in (nI p) 33 := vp_in_nI (by omega) (by decide)
          have hh := ih (mm - 1) (by omega) (by omega) _ _ _ _ (qd_best_take hb (by omega) hp (by omega) (by omega) (by omega)) f (by omega)
          exact br_f (nI_nle (by omega) (by omega)) ⟨hv, nm_r qx_uu ⟨hv, nm_r qx_uu ⟨hv, nm_r qx_uu ⟨hv, nm_r qx_uu (nm_r (sb_m1 (by omega)) hh)⟩⟩⟩⟩
theorem qx_pm {post : SX → Prop} {p l c a b d : Nat} {pc : Nat → Nat} (hE : 2 ≤ E) (hE2 : E ≤ 255) (hF2 : 2 ≤ F) (hF : F ≤ 15) (hK3 : 3 ≤ K) (hK : K ≤ 6) (hn : n ≤ 32)
    (hT : ∀ j, p < j → j ≤ n → PC j = nI (pc j) ∧ pc j ≤ 1000000) (hl : p + l + K ≤ n) (hb : qd_best S n F E K pc p l (n - p - l) c a b d)
    (hpost : ∀ mm c a b d, mm < K → qd_best S n F E K pc p l mm c a b d → post (nI F, nI E, nI K, nI T, nI n, nI bl, nI ol, rl, cu, S, B, O, R, upd PC p (nI c), upd PL p (nI a), upd PM p (nI b), upd PD p (nI d))) :
    wpX_planMatches post (nI F, nI E, nI K, nI T, nI n, nI bl, nI ol, rl, cu, S, B, O, R, upd PC p (nI c), upd PL p (nI a), upd PM p (nI b), upd PD p (nI d)) (nI p) (nI l) := by
  refine nm_r (nI_add p l) (qx_ext hE hE2 hF (by omega) (nm_r (e' := nI (qd_hd F E l)) ?_ (nm_r (e' := nI (n - p - l)) ?_ ⟨n + 2, ?_⟩)))
  · rw [show (1 : Int32) + nI (qd_ext F E l) = nI (1 + qd_ext F E l) from nI_add 1 _, nI_add]
    rfl
  · rw [pk_sub (by omega)]
    exact congrArg nI (by omega)
  · exact qx_pm23 hE hE2 hF2 hF hK3 hK hn hT hpost (n - p - l + 1 - K) (n - p - l) (by omega) (by omega) c a b d hb (n + 2) (by omega)
theorem qx_pf20 {post : SX → Prop} {p l0 m0 c a b d : Nat} {pc pl pm pd : Nat → Nat} (hE : 2 ≤ E) (hE2 : E ≤ 255) (hF2 : 2 ≤ F) (hF : F ≤ 15) (hK3 : 3 ≤ K) (hn : n ≤ 32) (hp : p ≤ n)
    (hb : qd_best S n F E K pc p l0 m0 c a b d) (hl : n < p + l0 + K) (hf : qd_fin n T p)
    (hpost : ∀ c a b d, qd_PL S n F E K T (qd_at pc p c) (qd_at pl p a) (qd_at pm p b) (qd_at pd p d) p → post (nI F, nI E, nI K, nI T, nI n, nI bl, nI ol, rl, cu, S, B, O, R, upd PC p (nI c), upd PL p (nI a), upd PM p (nI b), upd PD p (nI d))) :
    wX_planFinal_20 post (nI p) (nI (n - p)) (nI F) (nI E) (nI K) (nI T) (nI n) (nI bl) (nI ol) rl cu S B O R (upd PC p (nI c)) (upd PL p (nI a)) (upd PM p (nI b)) (upd PD p (nI d)) := by
  have h49 := qd_hd49 (F := F) (E := E) (l := n - p) hE hF2 (by omega)
  have hc1 := hb.1
  have hv : vp_in (nI p) 33 := vp_in_nI (by omega) (by decide)
  unfold wX_planFinal_20
  refine qx_ext hE hE2 hF (by omega) (nm_r (e' := nI (qd_hd F E (n - p))) ?_ ⟨hv, ?_⟩)
  · rw [show (1 : Int32) + nI (qd_ext F E (n - p)) = nI (1 + qd_ext F E (n - p)) from nI_add 1 _, nI_add]
    rfl
  · have eu : upd PC p (nI c) (nI p).toNatClampNeg = nI c := by rw [nI_clamp (by omega), pk_us]
    rw [eu]
    by_cases hc : c ≤ qd_hd F E (n - p)
    · exact br_t (nI_le hc (by omega)) (hpost c a b d (qd_PL_best hb hl (by omega) (fun _ => hc)))
    · exact br_f (nI_ge (by omega) (by omega)) ⟨hv, nm_r qx_uu ⟨hv, nm_r qx_uu ⟨hv, nm_r qx_uu ⟨hv, nm_r qx_uu (hpost _ _ _ _ (qd_PL_fin hb hl (by omega) hf (by omega)))⟩⟩⟩⟩
theorem qx_pf {post : SX → Prop} {p l0 m0 c a b d : Nat} {pc pl pm pd : Nat → Nat} (hE : 2 ≤ E) (hE2 : E ≤ 255) (hF2 : 2 ≤ F) (hF : F ≤ 15) (hK3 : 3 ≤ K) (hT8 : T ≤ 8) (hn : n ≤ 32) (hp : p ≤ n)
    (hb : qd_best S n F E K pc p l0 m0 c a b d) (hl : n < p + l0 + K)
    (hpost : ∀ c a b d, qd_PL S n F E K T (qd_at pc p c) (qd_at pl p a) (qd_at pm p b) (qd_at pd p d) p → post (nI F, nI E, nI K, nI T, nI n, nI bl, nI ol, rl, cu, S, B, O, R, upd PC p (nI c), upd PL p (nI a), upd PM p (nI b), upd PD p (nI d))) :
    wpX_planFinal post (nI F, nI E, nI K, nI T, nI n, nI bl, nI ol, rl, cu, S, B, O, R, upd PC p (nI c), upd PL p (nI a), upd PM p (nI b), upd PD p (nI d)) (nI p) := by
  refine nm_r (pk_sub hp) ?_
  by_cases h0 : p = 0
  · refine br_t (by rw [h0]; decide) (qx_pf20 hE hE2 hF2 hF hK3 hn hp hb hl (Or.inl h0) hpost)
  · refine br_f (nI_nle (by omega) (by omega)) ?_
    by_cases ht : T ≤ n - p
    · exact br_t (nI_le ht (by omega)) (qx_pf20 hE hE2 hF2 hF hK3 hn hp hb hl (Or.inr ht) hpost)
    · refine br_f (nI_ge (by omega) (by omega)) (hpost c a b d (qd_PL_best hb hl (by omega) (fun z => ?_)))
      unfold qd_fin at z
      omega
theorem qx_ps31 {post : SX → Prop} {J : Int32 → Int32 → Int32 → Int32 → Int32 → Int32 → Int32 → Int32 → Int32 → Int32 → (Nat → Int32) → (Nat → Int32) → (Nat → Int32) → (Nat → Int32) → (Nat → Int32) → (Nat → Int32) → (Nat → Int32) → (Nat → Int32) → Prop}
    {p : Nat} {pc pl pm pd : Nat → Nat} (hE : 2 ≤ E) (hE2 : E ≤ 255) (hF2 : 2 ≤ F) (hF : F ≤ 15) (hK3 : 3 ≤ K) (hK : K ≤ 6) (hT8 : T ≤ 8) (hn : n ≤ 32) (hp : p ≤ n)
    (hT : ∀ j, p < j → j ≤ n → PC j = nI (pc j) ∧ pc j ≤ 1000000)
    (hJ : ∀ c a b d, qd_PL S n F E K T (qd_at pc p c) (qd_at pl p a) (qd_at pm p b) (qd_at pd p d) p → J (nI p + (-1)) (nI F) (nI E) (nI K) (nI T) (nI n) (nI bl) (nI ol) rl cu S B O R (upd PC p (nI c)) (upd PL p (nI a)) (upd PM p (nI b)) (upd PD p (nI d))) :
    ∀ k l, l + k = n - p + 1 - K → ∀ c a b d, qd_best S n F E K pc p l (n - p - l) c a b d → ∀ f, k < f →
      wX_planSource_31 post J (nI p) (nI n - nI p - nI K) f (nI l) (nI F) (nI E) (nI K) (nI T) (nI n) (nI bl) (nI ol) rl cu S B O R (upd PC p (nI c)) (upd PL p (nI a)) (upd PM p (nI b)) (upd PD p (nI d)) := by
  intro k
  induction k with
  | zero =>
    intro l hl c a b d hb f hf
    obtain ⟨f, rfl⟩ : ∃ f', f = f' + 1 := ⟨f - 1, by omega⟩
    refine br_t ((qx_lim hp hn hK (by omega)).mpr (by omega)) ?_
    exact qx_pf hE hE2 hF2 hF hK3 hT8 hn hp hb (by omega) (fun c a b d h => nm_e (hJ c a b d h))
  | succ k ih =>
    intro l hl c a b d hb f hf
    obtain ⟨f, rfl⟩ : ∃ f', f = f' + 1 := ⟨f - 1, by omega⟩
    refine br_f (fun z => absurd ((qx_lim hp hn hK (by omega)).mp z) (by omega)) ?_
    exact qx_pm hE hE2 hF2 hF hK3 hK hn hT (by omega) hb (fun mm c a b d hm hb' => nm_r (nI_1 l) (ih (l + 1) (by omega) c a b d (qd_best_next hb' hm (by omega)) f (by omega)))
/-- tables from k on hold the plan -/
def qx_tab (F E K T n : Nat) (S PC PL PM PD : Nat → Int32) (pc pl pm pd : Nat → Nat) (k : Nat) : Prop :=
  ∀ j, k ≤ j → j ≤ n → PC j = nI (pc j) ∧ PL j = nI (pl j) ∧ PM j = nI (pm j) ∧ PD j = nI (pd j) ∧ qd_PL S n F E K T pc pl pm pd j
theorem qx_tab_s {p c a b d : Nat} {pc pl pm pd : Nat → Nat} (h : qx_tab F E K T n S PC PL PM PD pc pl pm pd (p + 1))
    (hP : qd_PL S n F E K T (qd_at pc p c) (qd_at pl p a) (qd_at pm p b) (qd_at pd p d) p) :
    qx_tab F E K T n S (upd PC p (nI c)) (upd PL p (nI a)) (upd PM p (nI b)) (upd PD p (nI d)) (qd_at pc p c) (qd_at pl p a) (qd_at pm p b) (qd_at pd p d) p := by
  intro j hj hn
  by_cases e : j = p
  · subst e
    rw [pk_us, pk_us, pk_us, pk_us, qd_at_s, qd_at_s, qd_at_s, qd_at_s]
    exact ⟨rfl, rfl, rfl, rfl, hP⟩
  · obtain ⟨h1, h2, h3, h4, h5⟩ := h j (by omega) hn
    rw [pk_un e, pk_un e, pk_un e, pk_un e, qd_at_n e, qd_at_n e, qd_at_n e, qd_at_n e]
    exact ⟨h1, h2, h3, h4, qd_PL_at (by omega) h5⟩
theorem qx_ps5 {post : SX → Prop} (hE : 2 ≤ E) (hE2 : E ≤ 255) (hF2 : 2 ≤ F) (hF : F ≤ 15) (hK3 : 3 ≤ K) (hK : K ≤ 6) (hT8 : T ≤ 8) (hn : n ≤ 32)
    (hpost : ∀ PC PL PM PD pc pl pm pd, qx_tab F E K T n S PC PL PM PD pc pl pm pd 0 → post (nI F, nI E, nI K, nI T, nI n, nI bl, nI ol, rl, cu, S, B, O, R, PC, PL, PM, PD)) :
    ∀ k, k ≤ n + 1 → ∀ PC PL PM PD pc pl pm pd, qx_tab F E K T n S PC PL PM PD pc pl pm pd k → ∀ f, k < f → wX_planSource_5 post f (nI k + (-1)) (nI F) (nI E) (nI K) (nI T) (nI n) (nI bl) (nI ol) rl cu S B O R PC PL PM PD := by
  intro k
  induction k with
  | zero =>
    intro hk PC PL PM PD pc pl pm pd h f hf
    obtain ⟨f, rfl⟩ : ∃ f', f = f' + 1 := ⟨f - 1, by omega⟩
    exact br_t (by decide) (hpost PC PL PM PD pc pl pm pd h)
  | succ p ih =>
    intro hk PC PL PM PD pc pl pm pd h f hf
    obtain ⟨f, rfl⟩ : ∃ f', f = f' + 1 := ⟨f - 1, by omega⟩
    rw [pk_m1]
    refine br_f (nI_pos (by omega)) ⟨vp_in_nI (by omega) (by decide), nm_r (e' := upd PC p (nI 1000000)) ?_ (nm_e ⟨n + 2, ?_⟩)⟩
    · rw [nI_clamp (by omega)]
      rfl
    · obtain ⟨a, ha⟩ := qd_of32 (PL p)
      obtain ⟨b, hb⟩ := qd_of32 (PM p)
      obtain ⟨d, hd⟩ := qd_of32 (PD p)
      have key := qx_ps31 (post := post) (J := wX_planSource_5 post f) (F := F) (E := E) (K := K) (T := T) (n := n) (bl := bl) (ol := ol) (rl := rl) (cu := cu) (S := S) (B := B) (O := O) (R := R) (PC := PC) (PL := PL) (PM := PM) (PD := PD)
        (p := p) (pc := pc) (pl := pl) (pm := pm) (pd := pd) hE hE2 hF2 hF hK3 hK hT8 hn (by omega) (fun j h1 h2 => ⟨(h j (by omega) h2).1, (h j (by omega) h2).2.2.2.2.1⟩)
        (fun c a b d hP => ih (by omega) _ _ _ _ _ _ _ _ (qx_tab_s h hP) f (by omega)) (n - p + 1 - K) 0 (by omega) 1000000 a b d (qd_best_0 (by omega)) (n + 2) (by omega)
      rw [← ha, ← hb, ← hd, qd_ue, qd_ue, qd_ue] at key
      exact key
theorem qx_ps {post : SX → Prop} (hE : 2 ≤ E) (hE2 : E ≤ 255) (hF2 : 2 ≤ F) (hF : F ≤ 15) (hK3 : 3 ≤ K) (hK : K ≤ 6) (hT8 : T ≤ 8) (hn : n ≤ 32)
    (hpost : ∀ PC PL PM PD pc pl pm pd, qx_tab F E K T n S PC PL PM PD pc pl pm pd 0 → post (nI F, nI E, nI K, nI T, nI n, nI bl, nI ol, rl, cu, S, B, O, R, PC, PL, PM, PD)) : wpX_planSource post (nI F, nI E, nI K, nI T, nI n, nI bl, nI ol, rl, cu, S, B, O, R, PC, PL, PM, PD) := by
  have key := qx_ps5 (bl := bl) (ol := ol) (rl := rl) (cu := cu) (B := B) (O := O) (R := R) hE hE2 hF2 hF hK3 hK hT8 hn hpost (n + 1) (by omega) PC PL PM PD (fun _ => 0) (fun _ => 0) (fun _ => 0) (fun _ => 0) (fun j h1 h2 => absurd h1 (by omega)) (n + 2) (by omega)
  rw [pk_m1] at key
  exact ⟨_, key⟩
end
end
section
/-! the component's writer -/
section
variable {F E K T n bl ol : Nat} {rl cu : Int32} {S B O R PC PL PM PD : Nat → Int32}
theorem qx_appB {post : SX → Prop} {c : Int32} (hb : bl < 64) (h : post (nI F, nI E, nI K, nI T, nI n, nI (bl + 1), nI ol, rl, cu, S, upd B bl c, O, R, PC, PL, PM, PD)) : wpX_appendToBlock post (nI F, nI E, nI K, nI T, nI n, nI bl, nI ol, rl, cu, S, B, O, R, PC, PL, PM, PD) c :=
  br_f (nI_ge (b := 64) hb (by decide)) ⟨vp_in_nI hb (by decide), nm_r qx_u (nm_r (nI_1 bl) h)⟩
theorem qx_fld {post : Int32 → Prop} {x : Nat} (hF : F ≤ 15) (hx : x < 1000000) (h : post (nI (qw_fld F x))) : wpX_field post (nI F, nI E, nI K, nI T, nI n, nI bl, nI ol, rl, cu, S, B, O, R, PC, PL, PM, PD) (nI x) := by
  by_cases c : F ≤ x
  · rw [show qw_fld F x = F from if_neg (by omega)] at h
    exact br_t (nI_le c (by omega)) h
  · rw [show qw_fld F x = x from if_pos (by omega)] at h
    exact br_f (nI_ge (by omega) (by omega)) h
theorem qx_we26 {post : SX → Prop} {x : Nat} (hE : 2 ≤ E) (hE2 : E ≤ 255) (hF : F ≤ 15) (hx : x < 1000000) (hFx : F ≤ x) (hb : bl + qd_ext F E x ≤ 64)
    (h : post (nI F, nI E, nI K, nI T, nI n, nI (bl + qd_ext F E x), nI ol, rl, cu, S, qd_fill B bl (qd_xg F E x) (qd_ext F E x), O, R, PC, PL, PM, PD)) :
    ∀ k i, i + k = (x - F) / E → ∀ f, k < f → wX_writeExtension_26 post (nI (x - F)) (nI ((x - F) / E)) f (nI i) (nI F) (nI E) (nI K) (nI T) (nI n) (nI (bl + i)) (nI ol) rl cu S (qd_fill B bl (qd_xg F E x) i) O R PC PL PM PD := by
  have ee := qd_ext_ge (E := E) hFx
  intro k
  induction k with
  | zero =>
    intro i hi f hf
    obtain ⟨f, rfl⟩ : ∃ f', f = f' + 1 := ⟨f - 1, by omega⟩
    refine br_t (nI_le (by omega) (by omega)) ⟨nI_ne0 (by omega) (by omega), ?_⟩
    rw [pk_rem (by omega) (by omega) (by omega)]
    refine qx_appB (by omega) ?_
    have e : qd_xg F E x i = nI ((x - F) % E) := if_neg (by omega)
    have e2 : qd_ext F E x = i + 1 := by omega
    rw [← e, qd_fill_s]
    rw [e2] at h
    exact h
  | succ k ih =>
    intro i hi f hf
    obtain ⟨f, rfl⟩ : ∃ f', f = f' + 1 := ⟨f - 1, by omega⟩
    refine br_f (nI_ge (by omega) (by omega)) (qx_appB (by omega) (nm_r (nI_1 i) ?_))
    have e : qd_xg F E x i = nI E := if_pos (by omega)
    have key := ih (i + 1) (by omega) f (by omega)
    rw [← qd_fill_s, e] at key
    exact key
theorem qx_we {post : SX → Prop} {x : Nat} (hE : 2 ≤ E) (hE2 : E ≤ 255) (hF : F ≤ 15) (hx : x < 1000000) (hb : bl + qd_ext F E x ≤ 64)
    (h : post (nI F, nI E, nI K, nI T, nI n, nI (bl + qd_ext F E x), nI ol, rl, cu, S, qd_fill B bl (qd_xg F E x) (qd_ext F E x), O, R, PC, PL, PM, PD)) : wpX_writeExtension post (nI F, nI E, nI K, nI T, nI n, nI bl, nI ol, rl, cu, S, B, O, R, PC, PL, PM, PD) (nI x) := by
  by_cases c : F ≤ x
  · have key := qx_we26 (T := T) (K := K) (n := n) (ol := ol) (rl := rl) (cu := cu) (S := S) (O := O) (R := R) (PC := PC) (PL := PL) (PM := PM) (PD := PD) hE hE2 hF hx c hb h ((x - F) / E) 0 (by omega) ((x - F) / E + 1) (by omega)
    rw [qd_fill_0] at key
    exact br_t (nI_le c (by omega)) (nm_r (pk_sub c) ⟨nI_ne0 (by omega) (by omega), nm_r (pk_div (by omega) (by omega) (by omega)) ⟨_, key⟩⟩)
  · rw [qd_ext_lt (by omega), qd_fill_0] at h
    exact br_f (nI_ge (by omega) (by omega)) h
theorem qx_wl61 {post : SX → Prop} {p l : Nat} (hp : p + l ≤ 32) (hb : bl + l ≤ 64) (h : post (nI F, nI E, nI K, nI T, nI n, nI (bl + l), nI ol, rl, cu, S, qd_fill B bl (fun i => S (p + i)) l, O, R, PC, PL, PM, PD)) :
    ∀ k i, i + k = l → ∀ f, k < f → wX_writeLiterals_61 post (nI p) (nI l) f (nI (p + i)) (nI F) (nI E) (nI K) (nI T) (nI n) (nI (bl + i)) (nI ol) rl cu S (qd_fill B bl (fun i => S (p + i)) i) O R PC PL PM PD := by
  intro k
  induction k with
  | zero =>
    intro i hi f hf
    obtain ⟨f, rfl⟩ : ∃ f', f = f' + 1 := ⟨f - 1, by omega⟩
    have e : nI p + nI l ≤ nI (p + i) := by rw [nI_add]; exact nI_le (by omega) (by omega)
    have e2 : i = l := by omega
    rw [← e2] at h
    exact br_t e h
  | succ k ih =>
    intro i hi f hf
    obtain ⟨f, rfl⟩ : ∃ f', f = f' + 1 := ⟨f - 1, by omega⟩
    have e : ¬ nI p + nI l ≤ nI (p + i) := by rw [nI_add]; exact nI_ge (by omega) (by omega)
    refine br_f e ⟨vp_in_nI (by omega) (by decide), ?_⟩
    rw [qx_g (a := S)]
    refine qx_appB (by omega) (nm_r (nI_1 (p + i)) ?_)
    have key := ih (i + 1) (by omega) f (by omega)
    rw [← qd_fill_s] at key
    exact key
theorem qx_wl32 {post : SX → Prop} {p l z : Nat} (hE : 2 ≤ E) (hE2 : E ≤ 255) (hF : F ≤ 15) (hp : p + l ≤ 32) (hb : bl + qd_hd F E l ≤ 64)
    (h : post (nI F, nI E, nI K, nI T, nI n, nI (bl + qd_hd F E l), nI ol, rl, cu, S, qw_head S F E B bl p l (16 * qw_fld F l + z), O, R, PC, PL, PM, PD)) :
    wX_writeLiterals_32 post (nI p) (nI l) (nI z) (nI F) (nI E) (nI K) (nI T) (nI n) (nI bl) (nI ol) rl cu S B O R PC PL PM PD := by
  have hh : qd_hd F E l = 1 + qd_ext F E l + l := rfl
  have e1 : bl + qd_hd F E l = bl + 1 + qd_ext F E l + l := by omega
  unfold wX_writeLiterals_32
  refine qx_fld hF (by omega) (nm_r (e' := nI (16 * qw_fld F l + z)) ?_ (qx_appB (by omega) (qx_we hE hE2 hF (by omega) (by omega) ⟨l + 1, ?_⟩)))
  · rw [show (16 : Int32) * nI (qw_fld F l) = nI (16 * qw_fld F l) from pk_mul 16 _, nI_add]
  · rw [e1] at h
    have key := qx_wl61 (bl := bl + 1 + qd_ext F E l) (by omega) (by omega) h l 0 (by omega) (l + 1) (by omega)
    rw [qd_fill_0] at key
    exact key
theorem qx_wl {post : SX → Prop} {p l m : Nat} (hE : 2 ≤ E) (hE2 : E ≤ 255) (hF : F ≤ 15) (hp : p + l ≤ 32) (hL : PL p = nI l) (hM : PM p = nI m) (hm : m = 0 ∨ (K ≤ m ∧ m ≤ 32))
    (hb : bl + qd_hd F E l ≤ 64) (h : post (nI F, nI E, nI K, nI T, nI n, nI (bl + qd_hd F E l), nI ol, rl, cu, S, qw_head S F E B bl p l (qw_tok F K l m), O, R, PC, PL, PM, PD)) : wpX_writeLiterals post (nI F, nI E, nI K, nI T, nI n, nI bl, nI ol, rl, cu, S, B, O, R, PC, PL, PM, PD) (nI p) := by
  have hv : vp_in (nI p) 33 := vp_in_nI (by omega) (by decide)
  refine ⟨hv, nm_r (e' := nI l) (by rw [qx_g (a := PL), hL]) ⟨hv, nm_r (e' := nI m) (by rw [qx_g (a := PM), hM]) ?_⟩⟩
  by_cases m0 : m = 0
  · have e : qw_tok F K l m = 16 * qw_fld F l + 0 := by unfold qw_tok; rw [if_pos m0]
    rw [e] at h
    exact br_t (by rw [m0]; rfl) (qx_wl32 hE hE2 hF hp hb h)
  · have e : qw_tok F K l m = 16 * qw_fld F l + qw_fld F (m - K) := by unfold qw_tok; rw [if_neg m0]
    rw [e] at h
    refine br_f (nI_ne0 (by omega) (by omega)) ?_
    rw [pk_sub (by omega)]
    exact qx_fld hF (by omega) (qx_wl32 hE hE2 hF hp hb h)
theorem qx_wm {post : SX → Prop} {p m d : Nat} (hE : 2 ≤ E) (hE2 : E ≤ 255) (hF : F ≤ 15) (hp : p ≤ 32) (hM : PM p = nI m) (hD : PD p = nI d) (hm : K ≤ m) (hm2 : m ≤ 32) (hd : d ≤ 32)
    (hb : bl + (2 + qd_ext F E (m - K)) ≤ 64) (h : post (nI F, nI E, nI K, nI T, nI n, nI (bl + (2 + qd_ext F E (m - K))), nI ol, rl, cu, S, qw_mat F E B bl d (m - K), O, R, PC, PL, PM, PD)) : wpX_writeMatch post (nI F, nI E, nI K, nI T, nI n, nI bl, nI ol, rl, cu, S, B, O, R, PC, PL, PM, PD) (nI p) := by
  have hv : vp_in (nI p) 33 := vp_in_nI (by omega) (by decide)
  have n256 : ¬ (256 : Int32) = 0 := by decide
  have e1 : bl + (2 + qd_ext F E (m - K)) = bl + 1 + 1 + qd_ext F E (m - K) := by omega
  have ed : nI d / 256 = nI (d / 256) := pk_div (d := 256) (by omega) (by omega) (by omega)
  have er : nI d - nI d / 256 * 256 = nI (d % 256) := pk_rem (d := 256) (by omega) (by omega) (by omega)
  refine ⟨hv, nm_r (e' := nI d) (by rw [qx_g (a := PD), hD]) ⟨n256, ?_⟩⟩
  rw [er, ed]
  refine qx_appB (by omega) ⟨n256, qx_appB (by omega) ⟨hv, ?_⟩⟩
  rw [qx_g (a := PM), hM, pk_sub hm]
  rw [e1] at h
  exact qx_we hE hE2 hF (by omega) (by omega) h
theorem qx_wp9 {post : SX → Prop} {pc pl pm pd : Nat → Nat} (hE : 2 ≤ E) (hE2 : E ≤ 255) (hF2 : 2 ≤ F) (hF : F ≤ 15) (hK3 : 3 ≤ K) (hn : n ≤ 32)
    (ht : qx_tab F E K T n S PC PL PM PD pc pl pm pd 0) :
    ∀ g p s, p ≤ n → pc p < 1000000 → n - p < g → 3 * s ≤ p → ∀ bl B, bl + pc p ≤ 64 → post (nI F, nI E, nI K, nI T, nI n, nI (qw S F E K pl pm pd g p bl B).1, nI ol, rl, cu, S, (qw S F E K pl pm pd g p bl B).2, O, R, PC, PL, PM, PD) →
      wX_writePlan_9 post g (nI p) (nI s) (nI F) (nI E) (nI K) (nI T) (nI n) (nI bl) (nI ol) rl cu S B O R PC PL PM PD := by
  intro g
  induction g with
  | zero => intro p s hp hc hg; omega
  | succ g ih =>
    intro p s hp hc hg hs bl B hb h
    obtain ⟨h1, h2, h3, h4, hP⟩ := ht p (by omega) hp
    have hv : vp_in (nI p) 33 := vp_in_nI (by omega) (by decide)
    refine br_f (nI_ge (b := 33) (by omega) (by decide)) ⟨hv, nm_r (e' := nI (pm p)) (by rw [qx_g (a := PM), h3]) ?_⟩
    rw [qw] at h
    rcases hP.2.2.2.2 with q5 | ⟨g1, g2, g3, g4, _⟩ | ⟨g1, g2, g3, g4, _⟩
    · omega
    · rw [if_pos g1] at h
      refine qx_wl hE hE2 hF (by omega) h2 h3 (Or.inl g1) (by rw [g2, ← g4]; exact hb) (br_t (by rw [g1]; rfl) h)
    · have k1 := g1.1
      have k2 := g1.2.1
      have hd := qd_Dle S (p + pl p) (pm p)
      rw [if_neg (by omega)] at h
      unfold qd_cost at g3
      refine qx_wl hE hE2 hF (by omega) h2 h3 (Or.inr ⟨k1, by omega⟩) (by omega) (br_f (nI_ne0 (by omega) (by omega)) ?_)
      refine qx_wm hE hE2 hF (by omega) h3 h4 k1 (by omega) (by omega) (by omega) ⟨hv, nm_r (e' := nI (p + pl p + pm p)) ?_ (nm_r (nI_1 s) ?_)⟩
      · rw [qx_g (a := PL), h2, nI_add, nI_add]
        exact congrArg nI (by omega)
      · exact ih _ (s + 1) k2 (by omega) (by omega) (by omega) _ _ (by omega) h
theorem qx_wp {post : SX → Prop} {pc pl pm pd : Nat → Nat} (hE : 2 ≤ E) (hE2 : E ≤ 255) (hF2 : 2 ≤ F) (hF : F ≤ 15) (hK3 : 3 ≤ K) (hn : n ≤ 32)
    (ht : qx_tab F E K T n S PC PL PM PD pc pl pm pd 0) (hc : pc 0 ≤ 64)
    (h : post (nI F, nI E, nI K, nI T, nI n, nI (qw S F E K pl pm pd 33 0 0 B).1, nI ol, rl, cu, S, (qw S F E K pl pm pd 33 0 0 B).2, O, R, PC, PL, PM, PD)) : wpX_writePlan post (nI F, nI E, nI K, nI T, nI n, nI bl, nI ol, rl, cu, S, B, O, R, PC, PL, PM, PD) :=
  ⟨33, qx_wp9 hE hE2 hF2 hF hK3 hn ht 33 0 0 (by omega) (by omega) (by omega) (by omega) 0 B (by omega) h⟩
end
end
section
/-! the component's reader against the pure reader -/
theorem qr_nn {c v : Nat} (h : c ≠ 0) (h8 : c ≤ 8) : ¬ (0 : Int32) ≤ qr_ans c v := Int32.not_le.mpr (qr_ans_neg h h8)
section
variable {F E K T n bl ol : Nat} {rl cu : Int32} {S B O R PC PL PM PD : Nat → Int32}
theorem qx_rc0 {post : Int32 → SX → Prop} {a : Nat} (ha : a < bl) (hb : bl ≤ 64) (h : post (B a) (nI F, nI E, nI K, nI T, nI n, nI bl, nI ol, rl, nI (a + 1), S, B, O, R, PC, PL, PM, PD)) : wpX_readCell post (nI F, nI E, nI K, nI T, nI n, nI bl, nI ol, rl, nI a, S, B, O, R, PC, PL, PM, PD) :=
  br_t (nI_lt ha (by omega)) ⟨vp_in_nI (by omega) (by decide), nm_r (qx_g (a := B)) (nm_r (nI_1 a) h)⟩
theorem qx_rc {post : Int32 → SX → Prop} {a : Nat} (hB : qd_by B) (ha : a < bl) (hb : bl ≤ 64) (h : post (nI (qr_c B a)) (nI F, nI E, nI K, nI T, nI n, nI bl, nI ol, rl, nI (a + 1), S, B, O, R, PC, PL, PM, PD)) : wpX_readCell post (nI F, nI E, nI K, nI T, nI n, nI bl, nI ol, rl, nI a, S, B, O, R, PC, PL, PM, PD) := by
  rw [← (qr_ce hB a).1] at h
  exact qx_rc0 ha hb h
theorem qx_rn14 {post : Int32 → SX → Prop} (hB : qd_by B) (hb : bl ≤ 64) (hE2 : E ≤ 255) :
    ∀ g a x s, a + g = bl → s ≤ a → x + 256 * g < 1000000 → post (qr_ans (qr_num B E g a x).1 (qr_num B E g a x).2.1) (nI F, nI E, nI K, nI T, nI n, nI bl, nI ol, rl, nI (qr_num B E g a x).2.2, S, B, O, R, PC, PL, PM, PD) →
      ∀ f, g < f → wX_readNumber_14 post f (nI x) (nI s) (nI F) (nI E) (nI K) (nI T) (nI n) (nI bl) (nI ol) rl (nI a) S B O R PC PL PM PD := by
  intro g
  induction g with
  | zero =>
    intro a x s ha hs hx h f hf
    obtain ⟨f, rfl⟩ : ∃ f', f = f' + 1 := ⟨f - 1, by omega⟩
    exact br_f (nI_nlt (by omega) (by omega)) (br_f (nI_nlt (by omega) (by omega)) h)
  | succ g ih =>
    intro a x s ha hs hx h f hf
    obtain ⟨f, rfl⟩ : ∃ f', f = f' + 1 := ⟨f - 1, by omega⟩
    have hc := (qr_ce hB a).2
    refine br_f (nI_nlt (by omega) (by omega)) (br_t (nI_lt (by omega) (by omega)) (qx_rc hB (by omega) hb ?_))
    rw [qr_num] at h
    by_cases c1 : E < qr_c B a
    · rw [if_pos c1] at h
      exact br_f (nI_ge c1 (by omega)) h
    · rw [if_neg c1] at h
      refine br_t (nI_le (by omega) (by omega)) (nm_r (nI_add x _) ?_)
      by_cases c2 : qr_c B a < E
      · rw [if_pos c2] at h
        exact br_f (nI_ge c2 (by omega)) h
      · rw [if_neg c2] at h
        exact br_t (nI_le (by omega) (by omega)) (nm_r (nI_1 s) (ih (a + 1) (x + qr_c B a) (s + 1) (by omega) (by omega) (by omega) h f (by omega)))
theorem qx_rn {post : Int32 → SX → Prop} {a x : Nat} (hB : qd_by B) (hb : bl ≤ 64) (hE2 : E ≤ 255) (hF : F ≤ 15) (ha : a ≤ bl) (hx : x ≤ 255)
    (h : post (qr_ans (qr_number B bl F E a x).1 (qr_number B bl F E a x).2.1) (nI F, nI E, nI K, nI T, nI n, nI bl, nI ol, rl, nI (qr_number B bl F E a x).2.2, S, B, O, R, PC, PL, PM, PD)) : wpX_readNumber post (nI F, nI E, nI K, nI T, nI n, nI bl, nI ol, rl, nI a, S, B, O, R, PC, PL, PM, PD) (nI x) := by
  unfold qr_number at h
  by_cases c : x < F
  · rw [if_pos c] at h
    exact br_f (nI_ge c (by omega)) h
  · rw [if_neg c] at h
    exact br_t (nI_le (by omega) (by omega)) ⟨bl + 1, qx_rn14 hB hb hE2 (bl - a) a x 0 (by omega) (by omega) (by omega) h (bl + 1) (by omega)⟩
theorem qx_appR {post : SX → Prop} {len : Nat} {c : Int32} (hl : len < 32) (h : post (nI F, nI E, nI K, nI T, nI n, nI bl, nI ol, nI (len + 1), cu, S, B, O, upd R len c, PC, PL, PM, PD)) : wpX_appendToResult post (nI F, nI E, nI K, nI T, nI n, nI bl, nI ol, nI len, cu, S, B, O, R, PC, PL, PM, PD) c :=
  br_f (nI_ge (b := 32) hl (by decide)) ⟨vp_in_nI hl (by decide), nm_r qx_u (nm_r (nI_1 len) h)⟩
theorem qx_rl32 {post : Int32 → SX → Prop} {l a len : Nat} (hb : bl ≤ 64) (ha : a + l ≤ bl) (hl : len + l ≤ 32)
    (h : post (nI l) (nI F, nI E, nI K, nI T, nI n, nI bl, nI ol, nI (len + l), nI (a + l), S, B, O, qd_fill R len (fun i => B (a + i)) l, PC, PL, PM, PD)) :
    ∀ k i, i + k = l → ∀ f, k < f → wX_readLiterals_32 post (nI l) f (nI i) (nI F) (nI E) (nI K) (nI T) (nI n) (nI bl) (nI ol) (nI (len + i)) (nI (a + i)) S B O (qd_fill R len (fun i => B (a + i)) i) PC PL PM PD := by
  intro k
  induction k with
  | zero =>
    intro i hi f hf
    obtain ⟨f, rfl⟩ : ∃ f', f = f' + 1 := ⟨f - 1, by omega⟩
    have e : i = l := by omega
    rw [e]
    exact br_t (nI_le (by omega) (by omega)) h
  | succ k ih =>
    intro i hi f hf
    obtain ⟨f, rfl⟩ : ∃ f', f = f' + 1 := ⟨f - 1, by omega⟩
    refine br_f (nI_ge (by omega) (by omega)) (qx_rc0 (by omega) hb (qx_appR (by omega) (nm_r (nI_1 i) ?_)))
    have key := ih (i + 1) (by omega) f (by omega)
    rw [← qd_fill_s] at key
    exact key
theorem qx_rl {post : Int32 → SX → Prop} {l a len : Nat} (hb : bl ≤ 64) (ha : a ≤ bl) (hl : len ≤ 32) (hx : l < 1000000)
    (h3 : bl - a < l → post (-3) (nI F, nI E, nI K, nI T, nI n, nI bl, nI ol, nI len, nI a, S, B, O, R, PC, PL, PM, PD)) (h6 : ¬ bl - a < l → 32 - len < l → post (-6) (nI F, nI E, nI K, nI T, nI n, nI bl, nI ol, nI len, nI a, S, B, O, R, PC, PL, PM, PD))
    (h : ¬ bl - a < l → ¬ 32 - len < l → post (nI l) (nI F, nI E, nI K, nI T, nI n, nI bl, nI ol, nI (len + l), nI (a + l), S, B, O, qd_fill R len (fun i => B (a + i)) l, PC, PL, PM, PD)) :
    wpX_readLiterals post (nI F, nI E, nI K, nI T, nI n, nI bl, nI ol, nI len, nI a, S, B, O, R, PC, PL, PM, PD) (nI l) := by
  have e1 : nI bl - nI a = nI (bl - a) := pk_sub ha
  have e2 : (32 : Int32) - nI len = nI (32 - len) := pk_sub (a := 32) hl
  by_cases c1 : bl - a < l
  · exact br_f (by rw [e1]; exact nI_ge c1 (by omega)) (h3 c1)
  · refine br_t (by rw [e1]; exact nI_le (by omega) (by omega)) ?_
    by_cases c2 : 32 - len < l
    · exact br_f (by rw [e2]; exact nI_ge c2 (by omega)) (h6 c1 c2)
    · have key := qx_rl32 (R := R) hb (by omega) (by omega) (h c1 c2) l 0 (by omega) (l + 1) (by omega)
      rw [qd_fill_0] at key
      exact br_t (by rw [e2]; exact nI_le (by omega) (by omega)) ⟨_, key⟩
theorem qx_rm94 {post : Int32 → SX → Prop} {d m len : Nat} (hd : 1 ≤ d) (hd2 : d ≤ len) (hm : len + m ≤ 32) (h : post (nI m) (nI F, nI E, nI K, nI T, nI n, nI bl, nI ol, nI (len + m), cu, S, B, O, qr_copy R len d m, PC, PL, PM, PD)) :
    ∀ k i, i + k = m → ∀ f, k < f → wX_readMatch_94 post (nI d) (nI m) f (nI i) (nI F) (nI E) (nI K) (nI T) (nI n) (nI bl) (nI ol) (nI (len + i)) cu S B O (qr_copy R len d i) PC PL PM PD := by
  intro k
  induction k with
  | zero =>
    intro i hi f hf
    obtain ⟨f, rfl⟩ : ∃ f', f = f' + 1 := ⟨f - 1, by omega⟩
    have e : i = m := by omega
    rw [e]
    exact br_t (nI_le (by omega) (by omega)) h
  | succ k ih =>
    intro i hi f hf
    obtain ⟨f, rfl⟩ : ∃ f', f = f' + 1 := ⟨f - 1, by omega⟩
    have es : nI (len + i) - nI d = nI (len + i - d) := pk_sub (by omega)
    refine br_f (nI_ge (by omega) (by omega)) ⟨by rw [es]; exact vp_in_nI (by omega) (by decide), ?_⟩
    rw [es, nI_clamp (by omega)]
    exact qx_appR (by omega) (nm_r (nI_1 i) (ih (i + 1) (by omega) f (by omega)))
theorem qx_rm {post : Int32 → SX → Prop} {k : Nat → Nat → (Nat → Int32) → qr_R} {a len mf : Nat} (hB : qd_by B) (hb : bl ≤ 64) (hE2 : E ≤ 255) (hF : F ≤ 15) (hK : K ≤ 6) (ha : a ≤ bl) (hl : len ≤ 32) (hf : mf ≤ 15)
    (hbad : ∀ c cu, c ≠ 0 → c ≤ 8 → qr_m1 B bl F E K k a len mf R = (c, len, R) → post (-nI c) (nI F, nI E, nI K, nI T, nI n, nI bl, nI ol, nI len, cu, S, B, O, R, PC, PL, PM, PD))
    (hok : ∀ m a' R', qr_m1 B bl F E K k a len mf R = k a' (len + m) R' → a + 2 ≤ a' → a' ≤ bl → len + m ≤ 32 → post (nI m) (nI F, nI E, nI K, nI T, nI n, nI bl, nI ol, nI (len + m), nI a', S, B, O, R', PC, PL, PM, PD)) :
    wpX_readMatch post (nI F, nI E, nI K, nI T, nI n, nI bl, nI ol, nI len, nI a, S, B, O, R, PC, PL, PM, PD) (nI mf) := by
  have e1 : nI bl - nI a = nI (bl - a) := pk_sub ha
  have h0 := (qr_ce hB a).2
  have h1 := (qr_ce hB (a + 1)).2
  by_cases c1 : bl - a < 2
  · exact br_f (by rw [e1]; exact nI_ge (b := 2) c1 (by decide)) (hbad 3 _ (by decide) (by decide) (by unfold qr_m1; rw [if_pos c1]))
  · refine br_t (by rw [e1]; exact nI_le (a := 2) (by omega) (by omega)) (qx_rc hB (by omega) hb (qx_rc hB (by omega) hb (nm_r (e' := nI (qr_c B a + 256 * qr_c B (a + 1))) ?_ ?_)))
    · rw [show (256 : Int32) * nI (qr_c B (a + 1)) = nI (256 * qr_c B (a + 1)) from pk_mul 256 _, nI_add]
    · by_cases c2 : qr_c B a + 256 * qr_c B (a + 1) = 0
      · rw [c2]
        exact br_t rfl (hbad 8 _ (by decide) (by decide) (by unfold qr_m1; rw [if_neg c1, if_pos (Or.inl c2)]))
      · refine br_f (nI_ne0 (by omega) (by omega)) ?_
        by_cases c3 : len < qr_c B a + 256 * qr_c B (a + 1)
        · exact br_f (nI_ge c3 (by omega)) (hbad 8 _ (by decide) (by decide) (by unfold qr_m1; rw [if_neg c1, if_pos (Or.inr c3)]))
        · have em : qr_m1 B bl F E K k a len mf R = qr_m2 K k len (qr_c B a + 256 * qr_c B (a + 1)) R (qr_number B bl F E (a + 2) mf) := by
            unfold qr_m1
            rw [if_neg c1, if_neg (by omega)]
          rw [em] at hbad hok
          have nb := qr_number_b (bl := bl) (F := F) (E := E) (a := a + 2) (x := mf) hB (by omega) hb
          refine br_t (nI_le (by omega) (by omega)) (qx_rn hB hb hE2 hF (by omega) (by omega) ?_)
          generalize qr_number B bl F E (a + 2) mf = nx at hbad hok nb
          obtain ⟨c, x, a'⟩ := nx
          dsimp only at nb ⊢
          by_cases c4 : c = 0
          · rw [c4, qr_ans0]
            have e2 : (32 : Int32) - nI len = nI (32 - len) := pk_sub (a := 32) hl
            refine br_t (nI_pos' (by omega)) (nm_r (nI_add K x) ?_)
            by_cases c5 : 32 - len < K + x
            · exact br_f (by rw [e2]; exact nI_ge c5 (by omega)) (hbad 6 _ (by decide) (by decide) (by unfold qr_m2; rw [if_neg (by dsimp only; omega), if_pos c5]))
            · have key := qx_rm94 (R := R) (cu := nI a') (d := qr_c B a + 256 * qr_c B (a + 1)) (m := K + x) (by omega) (by omega) (by omega) (hok (K + x) a' _ (by unfold qr_m2; rw [if_neg (by dsimp only; omega), if_neg c5]) nb.2.1 nb.2.2.1 (by omega)) (K + x) 0 (by omega) (K + x + 1) (by omega)
              exact br_t (by rw [e2]; exact nI_le (by omega) (by omega)) ⟨_, key⟩
          · rw [qr_ansn c4]
            refine br_f ?_ (hbad c _ c4 (by omega) (by unfold qr_m2; rw [if_pos c4]))
            have := qr_nn (v := 0) c4 (by omega)
            rw [qr_ansn c4] at this
            exact this
theorem qx_rb14 {post : Int32 → SX → Prop} (hB : qd_by B) (hb : bl ≤ 64) (hE2 : E ≤ 255) (hF : F ≤ 15) (hK : K ≤ 6) (hT8 : T ≤ 8) :
    ∀ g s a len R x1, g + s = bl + 1 → s ≤ a → a ≤ bl → len ≤ 32 → ((x1 = (0 : Int32) ∧ s = 0) ∨ (x1 = 1 ∧ 0 < s)) →
      (∀ W, qr_read B bl F E K T g s a len R = W → ∀ cu, post (qr_ans W.1 W.2.1) (nI F, nI E, nI K, nI T, nI n, nI bl, nI ol, nI W.2.1, cu, S, B, O, W.2.2, PC, PL, PM, PD)) →
      ∀ f, g < f → wX_readBlock_14 post f x1 (nI s) (nI F) (nI E) (nI K) (nI T) (nI n) (nI bl) (nI ol) (nI len) (nI a) S B O R PC PL PM PD := by
  intro g
  induction g with
  | zero => intro s a len R x1 hg hs ha hl hx h f hf; omega
  | succ g ih =>
    intro s a len R x1 hg hs ha hl hx h f hf
    obtain ⟨f, rfl⟩ : ∃ f', f = f' + 1 := ⟨f - 1, by omega⟩
    refine br_f (nI_nlt (by omega) (by omega)) ?_
    by_cases c0 : bl ≤ a
    · exact br_f (nI_nlt c0 (by omega)) (h (3, len, R) (by rw [qr_read, if_pos c0]) _)
    · have hc := (qr_ce hB a).2
      refine br_t (nI_lt (by omega) (by omega)) (qx_rc hB (by omega) hb ⟨by decide, nm_r (pk_div (d := 16) (by omega) (by omega) (by omega)) ⟨by decide, nm_r (pk_rem (d := 16) (by omega) (by omega) (by omega)) ?_⟩⟩)
      by_cases c1 : F < qr_c B a / 16
      · exact br_t (nI_lt c1 (by omega)) (h (4, len, R) (by rw [qr_read, if_neg c0, if_pos (Or.inl c1)]) _)
      · refine br_f (nI_nlt (by omega) (by omega)) ?_
        by_cases c2 : F < qr_c B a % 16
        · exact br_f (nI_ge c2 (by omega)) (h (4, len, R) (by rw [qr_read, if_neg c0, if_pos (Or.inr c2)]) _)
        · have e0 : qr_read B bl F E K T (g + 1) s a len R = qr_l1 B bl F E K T (fun a' len' res' => qr_read B bl F E K T g (s + 1) a' len' res') s len (qr_c B a % 16) R (qr_number B bl F E (a + 1) (qr_c B a / 16)) := by
            rw [qr_read, if_neg c0, if_neg (by omega)]
          rw [e0] at h
          have nb := qr_number_b (bl := bl) (F := F) (E := E) (a := a + 1) (x := qr_c B a / 16) hB (by omega) hb
          refine br_t (nI_le (by omega) (by omega)) (qx_rn hB hb hE2 hF (by omega) (by omega) ?_)
          generalize qr_number B bl F E (a + 1) (qr_c B a / 16) = nl at h nb
          obtain ⟨c, l, a2⟩ := nl
          dsimp only at nb ⊢
          by_cases c3 : c = 0
          · subst c3
            rw [qr_ans0]
            refine br_t (nI_pos' (by omega)) (qx_rl hb nb.2.2.1 hl (by omega) (fun c4 => ?_) (fun c4 c5 => ?_) (fun c4 c5 => ?_))
            · exact br_f (by decide) (h (3, len, R) (by unfold qr_l1; rw [if_neg (by dsimp only; omega), if_pos c4]) _)
            · exact br_f (by decide) (h (6, len, R) (by unfold qr_l1; rw [if_neg (by dsimp only; omega), if_neg c4, if_pos c5]) _)
            · refine br_t (nI_pos' (by omega)) ?_
              by_cases c6 : bl ≤ a2 + l
              · refine br_f (nI_nlt c6 (by omega)) ?_
                have hbad : (qr_c B a % 16 ≠ 0 ∨ (0 < s ∧ l < T)) → qr_l1 B bl F E K T (fun a' len' res' => qr_read B bl F E K T g (s + 1) a' len' res') s len (qr_c B a % 16) R (0, l, a2) = (7, len + l, qd_fill R len (fun i => B (a2 + i)) l) := by
                  intro z
                  unfold qr_l1
                  rw [if_neg (by dsimp only; omega), if_neg c4, if_neg c5, if_pos c6, if_pos z]
                have hgood : ¬ (qr_c B a % 16 ≠ 0 ∨ (0 < s ∧ l < T)) → qr_l1 B bl F E K T (fun a' len' res' => qr_read B bl F E K T g (s + 1) a' len' res') s len (qr_c B a % 16) R (0, l, a2) = (0, len + l, qd_fill R len (fun i => B (a2 + i)) l) := by
                  intro z
                  unfold qr_l1
                  rw [if_neg (by dsimp only; omega), if_neg c4, if_neg c5, if_pos c6, if_neg z]
                have w135 : ∀ z0 : Int32, ((z0 = 0 → ¬ (0 < s ∧ l < T)) ∧ (¬ z0 = 0 → (0 < s ∧ l < T))) → wX_readBlock_135 post (nI (qr_c B a % 16)) z0 (nI F) (nI E) (nI K) (nI T) (nI n) (nI bl) (nI ol) (nI (len + l)) (nI (a2 + l)) S B O (qd_fill R len (fun i => B (a2 + i)) l) PC PL PM PD := by
                  intro z0 hz
                  by_cases c7 : qr_c B a % 16 = 0
                  · rw [c7]
                    refine br_t rfl ?_
                    by_cases c8 : z0 = 0
                    · exact br_t c8 (h _ (hgood (fun z => z.elim (fun y => y c7) (hz.1 c8))) _)
                    · exact br_f c8 (h _ (hbad (Or.inr (hz.2 c8))) _)
                  · exact br_f (nI_ne0 (by omega) (by omega)) (h _ (hbad (Or.inl c7)) _)
                rcases hx with ⟨x0, s0⟩ | ⟨x1', s1⟩
                · refine br_t x0 ?_
                  unfold wX_readBlock_134
                  exact w135 0 ⟨fun _ => by omega, fun z => absurd rfl z⟩
                · refine br_f (by rw [x1']; decide) ?_
                  by_cases c7 : T ≤ l
                  · refine br_t (nI_le c7 (by omega)) ?_
                    unfold wX_readBlock_134
                    exact w135 0 ⟨fun _ => by omega, fun z => absurd rfl z⟩
                  · exact br_f (nI_ge (by omega) (by omega)) (w135 1 ⟨fun z => absurd z (by decide), fun _ => by omega⟩)
              · have em : qr_l1 B bl F E K T (fun a' len' res' => qr_read B bl F E K T g (s + 1) a' len' res') s len (qr_c B a % 16) R (0, l, a2) =
                    qr_m1 B bl F E K (fun a' len' res' => qr_read B bl F E K T g (s + 1) a' len' res') (a2 + l) (len + l) (qr_c B a % 16) (qd_fill R len (fun i => B (a2 + i)) l) := by
                  unfold qr_l1
                  rw [if_neg (by dsimp only; omega), if_neg c4, if_neg c5, if_neg c6]
                rw [em] at h
                refine br_t (nI_lt (by omega) (by omega)) (qx_rm (k := fun a' len' res' => qr_read B bl F E K T g (s + 1) a' len' res') (a := a2 + l) (len := len + l) (mf := qr_c B a % 16) (R := qd_fill R len (fun i => B (a2 + i)) l) hB hb hE2 hF hK (by omega) (by omega) (by omega) (fun c cu hc0 hc8 e => ?_) (fun m a' R' e h1 h2 h3 => ?_))
                · have t := h _ e cu
                  dsimp only at t
                  rw [qr_ansn hc0] at t
                  exact br_f (Int32.not_le.mpr (qr_neg hc0 hc8)) t
                · rw [e] at h
                  exact br_t (nI_pos' (by omega)) (nm_r (nI_1 s) (ih (s + 1) a' (len + l + m) R' 1 (by omega) (by omega) (by omega) (by omega) (Or.inr ⟨rfl, by omega⟩) h f (by omega)))
          · refine br_f (qr_nn c3 (by omega)) ?_
            have t := h (c, len, R) (by unfold qr_l1; rw [if_pos c3]) (nI a2)
            dsimp only at t
            rw [qr_ansn c3] at t ⊢
            exact t
theorem qx_rb {post : Int32 → SX → Prop} (hB : qd_by B) (hb : bl ≤ 64) (hE2 : E ≤ 255) (hF : F ≤ 15) (hK : K ≤ 6) (hT8 : T ≤ 8)
    (h : ∀ W, qr_read B bl F E K T (bl + 1) 0 0 0 R = W → ∀ cu, post (qr_ans W.1 W.2.1) (nI F, nI E, nI K, nI T, nI n, nI bl, nI ol, nI W.2.1, cu, S, B, O, W.2.2, PC, PL, PM, PD)) : wpX_readBlock post (nI F, nI E, nI K, nI T, nI n, nI bl, nI ol, rl, cu, S, B, O, R, PC, PL, PM, PD) :=
  ⟨bl + 2, qx_rb14 hB hb hE2 hF hK hT8 (bl + 1) 0 0 0 R 0 (by omega) (by omega) (by omega) (by omega) (Or.inl ⟨rfl, rfl⟩) h (bl + 2) (by omega)⟩
theorem qx_re15 {post : Int32 → Prop} {len : Nat} (hl : len ≤ 32) (h1 : (∀ j, j < len → R j = S j) → post 1) (h0 : ¬ (∀ j, j < len → R j = S j) → post 0) :
    ∀ k i, i + k = len → (∀ j, j < i → R j = S j) → ∀ f, k < f → wX_resultEqualsSource_15 post (nI F) (nI E) (nI K) (nI T) (nI n) (nI bl) (nI ol) (nI len) cu S B O R PC PL PM PD f (nI i) := by
  intro k
  induction k with
  | zero =>
    intro i hi hr f hf
    obtain ⟨f, rfl⟩ : ∃ f', f = f' + 1 := ⟨f - 1, by omega⟩
    exact br_t (nI_le (by omega) (by omega)) (h1 (fun j hj => hr j (by omega)))
  | succ k ih =>
    intro i hi hr f hf
    obtain ⟨f, rfl⟩ : ∃ f', f = f' + 1 := ⟨f - 1, by omega⟩
    refine br_f (nI_ge (by omega) (by omega)) ⟨vp_in_nI (by omega) (by decide), vp_in_nI (by omega) (by decide), ?_⟩
    rw [qx_g (a := R), qx_g (a := S)]
    by_cases c : R i = S i
    · exact br_t c (nm_r (nI_1 i) (ih (i + 1) (by omega) (lt_s hr c) f (by omega)))
    · exact br_f c (h0 (fun z => c (z i (by omega))))
theorem qx_re {post : Int32 → Prop} {len : Nat} (hl : len ≤ 32) (hn : n ≤ 32) (h1 : len = n → (∀ j, j < len → R j = S j) → post 1) (h0 : ¬ (len = n ∧ ∀ j, j < len → R j = S j) → post 0) :
    wpX_resultEqualsSource post (nI F, nI E, nI K, nI T, nI n, nI bl, nI ol, nI len, cu, S, B, O, R, PC, PL, PM, PD) := by
  by_cases c : len = n
  · exact br_t (by rw [c]) ⟨len + 1, qx_re15 hl (h1 c) (fun z => h0 (fun y => z y.2)) len 0 (by omega) lt_0 (len + 1) (by omega)⟩
  · exact br_f (fun z => c ((nI_eq (by omega) (by omega)).mp z)) (h0 (fun y => c y.1))
end
end
section
/-! the reference's reader against the pure reader -/
section
variable {F E K T n bl ol : Nat} {at0 fL fX fD : Int32} {S B O R EN : Nat → Int32}
theorem qy_rn12 {post : Int32 → SY → Prop} (hB : qd_by B) (hb : bl ≤ 64) (hE2 : E ≤ 255) :
    ∀ g a x s, a + g = bl → s ≤ a → x + 256 * g < 1000000 → post (qr_ans (qr_num B E g a x).1 (qr_num B E g a x).2.1) (nI n, nI bl, nI ol, nI (qr_num B E g a x).2.2, fL, fX, fD, nI F, nI E, nI K, nI T, S, B, O, R, EN) →
      ∀ f, g < f → wY_readNumber_12 post (nI n) (nI bl) (nI ol) fL fX fD (nI F) (nI E) (nI K) (nI T) S B O R EN f (nI x) (nI s) (nI a) := by
  intro g
  induction g with
  | zero =>
    intro a x s ha hs hx h f hf
    obtain ⟨f, rfl⟩ : ∃ f', f = f' + 1 := ⟨f - 1, by omega⟩
    exact br_c (fun _ => h) (fun _ => br_t (nI_le (by omega) (by omega)) h)
  | succ g ih =>
    intro a x s ha hs hx h f hf
    obtain ⟨f, rfl⟩ : ∃ f', f = f' + 1 := ⟨f - 1, by omega⟩
    have hc := qr_ce hB a
    refine br_f (nI_ge (b := 64) (by omega) (by decide)) (br_f (nI_ge (by omega) (by omega)) (nm_r (nI_1 a) ⟨vp_in_nI (by omega) (by decide), nm_r (e' := nI (qr_c B a)) (by rw [qx_g (a := B)]; exact hc.1) ?_⟩))
    rw [qr_num] at h
    by_cases c1 : E < qr_c B a
    · rw [if_pos c1] at h
      exact br_f (nI_ge c1 (by omega)) h
    · rw [if_neg c1] at h
      refine br_t (nI_le (by omega) (by omega)) (nm_r (nI_add x _) ?_)
      by_cases c2 : qr_c B a < E
      · rw [if_pos c2] at h
        exact br_f (nI_ge c2 (by omega)) h
      · rw [if_neg c2] at h
        exact br_t (nI_le (by omega) (by omega)) (nm_r (nI_1 s) (ih (a + 1) (x + qr_c B a) (s + 1) (by omega) (by omega) (by omega) h f (by omega)))
theorem qy_rn {post : Int32 → SY → Prop} {a x : Nat} (hB : qd_by B) (hb : bl ≤ 64) (hE2 : E ≤ 255) (hF : F ≤ 15) (ha : a ≤ bl) (hx : x ≤ 255)
    (h : post (qr_ans (qr_number B bl F E a x).1 (qr_number B bl F E a x).2.1) (nI n, nI bl, nI ol, nI (qr_number B bl F E a x).2.2, fL, fX, fD, nI F, nI E, nI K, nI T, S, B, O, R, EN)) : wpY_readNumber post (nI n, nI bl, nI ol, nI a, fL, fX, fD, nI F, nI E, nI K, nI T, S, B, O, R, EN) (nI x) := by
  unfold qr_number at h
  by_cases c : x < F
  · rw [if_pos c] at h
    exact br_f (nI_ge c (by omega)) h
  · rw [if_neg c] at h
    exact br_t (nI_le (by omega) (by omega)) ⟨bl + 1, qy_rn12 hB hb hE2 (bl - a) a x 0 (by omega) (by omega) (by omega) h (bl + 1) (by omega)⟩
theorem qy_320 {post : Int32 → SY → Prop} {J : Int32 → Int32 → Int32 → Int32 → Int32 → Int32 → Int32 → Int32 → Int32 → Int32 → Int32 → Int32 → Int32 → (Nat → Int32) → (Nat → Int32) → (Nat → Int32) → (Nat → Int32) → (Nat → Int32) → Prop}
    {s d x len : Nat} (hd : 1 ≤ d) (hd2 : d ≤ len) (hm : len + (K + x) ≤ 32) (h : J (nI (len + (K + x))) (nI (s + 1)) (nI n) (nI bl) (nI ol) at0 fL fX fD (nI F) (nI E) (nI K) (nI T) S B O (qr_copy R len d (K + x)) EN) :
    ∀ k i, i + k = K + x → ∀ f, k < f → wY_read_320 post J (nI s) (nI d) (nI x) (nI n) (nI bl) (nI ol) at0 fL fX fD (nI F) (nI E) (nI K) (nI T) f (nI (len + i)) (nI i) S B O (qr_copy R len d i) EN := by
  have ek : nI K + nI x = nI (K + x) := nI_add _ _
  intro k
  induction k with
  | zero =>
    intro i hi f hf
    obtain ⟨f, rfl⟩ : ∃ f', f = f' + 1 := ⟨f - 1, by omega⟩
    have e : i = K + x := by omega
    rw [e]
    exact br_t (by rw [ek]; exact nI_le (by omega) (by omega)) (nm_r (nI_1 s) h)
  | succ k ih =>
    intro i hi f hf
    obtain ⟨f, rfl⟩ : ∃ f', f = f' + 1 := ⟨f - 1, by omega⟩
    have es : nI (len + i) - nI d = nI (len + i - d) := pk_sub (by omega)
    refine br_f (by rw [ek]; exact nI_ge (by omega) (by omega)) ⟨by rw [es]; exact vp_in_nI (by omega) (by decide), vp_in_nI (by omega) (by decide), nm_r (e' := qr_copy R len d (i + 1)) ?_ (nm_r (nI_1 i) (nm_r (nI_1 (len + i)) (ih (i + 1) (by omega) f (by omega))))⟩
    rw [es, nI_clamp (by omega), nI_clamp (by omega), qr_copy]
theorem qy_134e {post : Int32 → SY → Prop} {J : Int32 → Int32 → Int32 → Int32 → Int32 → Int32 → Int32 → Int32 → Int32 → Int32 → Int32 → Int32 → Int32 → (Nat → Int32) → (Nat → Int32) → (Nat → Int32) → (Nat → Int32) → (Nat → Int32) → Prop}
    {k : Nat → Nat → (Nat → Int32) → qr_R} {s l mf a len : Nat} (hB : qd_by B) (hb : bl ≤ 64) (hE2 : E ≤ 255) (hF : F ≤ 15) (hK : K ≤ 6) (hT8 : T ≤ 8) (ha : a ≤ bl) (hl : len ≤ 32) (hl2 : l ≤ 32) (hf : mf ≤ 15) (hs : s ≤ 64)
    (h7 : a = bl → (mf ≠ 0 ∨ (0 < s ∧ l < T)) → post (-7) (nI n, nI bl, nI ol, nI a, fL, fX, fD, nI F, nI E, nI K, nI T, S, B, O, R, EN)) (h0 : a = bl → ¬ (mf ≠ 0 ∨ (0 < s ∧ l < T)) → post (nI len) (nI n, nI bl, nI ol, nI a, fL, fX, fD, nI F, nI E, nI K, nI T, S, B, O, R, EN))
    (hbad : ∀ c at0, a < bl → c ≠ 0 → c ≤ 8 → qr_m1 B bl F E K k a len mf R = (c, len, R) → post (-nI c) (nI n, nI bl, nI ol, at0, fL, fX, fD, nI F, nI E, nI K, nI T, S, B, O, R, EN))
    (hok : ∀ m a' R', a < bl → qr_m1 B bl F E K k a len mf R = k a' (len + m) R' → a + 2 ≤ a' → a' ≤ bl → len + m ≤ 32 → J (nI (len + m)) (nI (s + 1)) (nI n) (nI bl) (nI ol) (nI a') fL fX fD (nI F) (nI E) (nI K) (nI T) S B O R' EN) (f : Nat) :
    wY_read_134 post J (nI s) (nI mf) (nI l) (nI n) (nI bl) (nI ol) fL fX fD (nI F) (nI E) (nI K) (nI T) (f + 1) (nI len) (nI l) (nI a) S B O R EN := by
  have k0 := qr_ce hB a
  have k1 := qr_ce hB (a + 1)
  refine br_t (nI_le (by omega) (by omega)) ?_
  by_cases c0 : a = bl
  · refine br_t (by rw [c0]) ?_
    by_cases c1 : mf = 0
    · refine br_t (by rw [c1]; rfl) ?_
      by_cases c2 : s = 0
      · exact br_t (by rw [c2]; decide) (h0 c0 (by omega))
      · refine br_f (nI_nle (by omega) (by omega)) ?_
        by_cases c3 : T ≤ l
        · exact br_t (nI_le c3 (by omega)) (h0 c0 (by omega))
        · exact br_f (nI_ge (by omega) (by omega)) (h7 c0 (by omega))
    · exact br_f (nI_ne0 (by omega) (by omega)) (h7 c0 (Or.inl c1))
  · refine br_f (fun z => c0 ((nI_eq (by omega) (by omega)).mp z)) ?_
    have e1 : nI bl - 1 = nI (bl - 1) := pk_sub (b := 1) (by omega)
    by_cases c1 : bl - a < 2
    · exact br_t (by rw [e1]; exact congrArg nI (by omega)) (hbad 3 _ (by omega) (by decide) (by decide) (by unfold qr_m1; rw [if_pos c1]))
    · refine br_f (by rw [e1]; exact fun z => absurd ((nI_eq (by omega) (by omega)).mp z) (by omega)) (nm_r (nI_1 a) ⟨vp_in_nI (by omega) (by decide), nm_r (nI_1 (a + 1)) ⟨vp_in_nI (by omega) (by decide), nm_r (e' := nI (qr_c B a + 256 * qr_c B (a + 1))) ?_ ?_⟩⟩)
      · rw [qx_g (a := B), qx_g (a := B), k0.1, k1.1, show (256 : Int32) * nI (qr_c B (a + 1)) = nI (256 * qr_c B (a + 1)) from pk_mul 256 _, nI_add]
      · have h0 := k0.2
        have h1 := k1.2
        by_cases c2 : qr_c B a + 256 * qr_c B (a + 1) = 0
        · rw [c2]
          exact br_t rfl (hbad 8 _ (by omega) (by decide) (by decide) (by unfold qr_m1; rw [if_neg c1, if_pos (Or.inl c2)]))
        · refine br_f (nI_ne0 (by omega) (by omega)) ?_
          by_cases c3 : len < qr_c B a + 256 * qr_c B (a + 1)
          · exact br_f (nI_ge c3 (by omega)) (hbad 8 _ (by omega) (by decide) (by decide) (by unfold qr_m1; rw [if_neg c1, if_pos (Or.inr c3)]))
          · have em : qr_m1 B bl F E K k a len mf R = qr_m2 K k len (qr_c B a + 256 * qr_c B (a + 1)) R (qr_number B bl F E (a + 2) mf) := by
              unfold qr_m1
              rw [if_neg c1, if_neg (by omega)]
            rw [em] at hbad hok
            have nb := qr_number_b (bl := bl) (F := F) (E := E) (a := a + 2) (x := mf) hB (by omega) hb
            refine br_t (nI_le (by omega) (by omega)) (qy_rn hB hb hE2 hF (by omega) (by omega) ?_)
            generalize qr_number B bl F E (a + 2) mf = nx at hbad hok nb
            obtain ⟨c, x, a'⟩ := nx
            dsimp only at nb ⊢
            by_cases c4 : c = 0
            · rw [c4, qr_ans0]
              have e2 : nI len + nI K + nI x = nI (len + (K + x)) := by rw [nI_add, nI_add, Nat.add_assoc]
              refine br_f (nI_pos (by omega)) ?_
              by_cases c5 : 32 - len < K + x
              · refine br_f (by rw [e2]; exact nI_ge (a := 32) (by omega) (by omega)) ?_
                unfold wY_read_304
                exact br_t (nI_pos' (by omega)) (hbad 6 _ (by omega) (by decide) (by decide) (by unfold qr_m2; rw [if_neg (by dsimp only; omega), if_pos c5]))
              · have key := qy_320 (post := post) (J := J) (R := R) (at0 := nI a') (s := s) (d := qr_c B a + 256 * qr_c B (a + 1)) (x := x) (len := len) (by omega) (by omega) (by omega) (hok (K + x) a' _ (by omega) (by unfold qr_m2; rw [if_neg (by dsimp only; omega), if_neg c5]) nb.2.1 nb.2.2.1 (by omega)) (K + x) 0 (by omega) (K + x + 1) (by omega)
                exact br_t (by rw [e2]; exact nI_le (b := 32) (by omega) (by decide)) ⟨_, key⟩
            · rw [qr_ansn c4]
              refine br_t (qr_neg c4 (by omega)) ?_
              unfold wY_read_304
              exact br_f (Int32.not_le.mpr (qr_neg c4 (by omega))) (hbad c _ (by omega) c4 (by omega) (by unfold qr_m2; rw [if_pos c4]))
theorem qy_134 {post : Int32 → SY → Prop} {J : Int32 → Int32 → Int32 → Int32 → Int32 → Int32 → Int32 → Int32 → Int32 → Int32 → Int32 → Int32 → Int32 → (Nat → Int32) → (Nat → Int32) → (Nat → Int32) → (Nat → Int32) → (Nat → Int32) → Prop}
    {s l mf a len : Nat} (hb : bl ≤ 64) (ha : a + l ≤ bl) (hl : len + l ≤ 32)
    (h : ∀ f, wY_read_134 post J (nI s) (nI mf) (nI l) (nI n) (nI bl) (nI ol) fL fX fD (nI F) (nI E) (nI K) (nI T) (f + 1) (nI (len + l)) (nI l) (nI (a + l)) S B O (qd_fill R len (fun i => B (a + i)) l) EN) :
    ∀ k i, i + k = l → ∀ f, k < f → wY_read_134 post J (nI s) (nI mf) (nI l) (nI n) (nI bl) (nI ol) fL fX fD (nI F) (nI E) (nI K) (nI T) f (nI (len + i)) (nI i) (nI (a + i)) S B O (qd_fill R len (fun i => B (a + i)) i) EN := by
  intro k
  induction k with
  | zero =>
    intro i hi f hf
    obtain ⟨f, rfl⟩ : ∃ f', f = f' + 1 := ⟨f - 1, by omega⟩
    have e : i = l := by omega
    rw [e]
    exact h f
  | succ k ih =>
    intro i hi f hf
    obtain ⟨f, rfl⟩ : ∃ f', f = f' + 1 := ⟨f - 1, by omega⟩
    have key := ih (i + 1) (by omega) f (by omega)
    refine br_f (nI_ge (by omega) (by omega)) (nm_r (nI_1 _) (nm_r (nI_1 _) ⟨vp_in_nI (by omega) (by decide), vp_in_nI (by omega) (by decide), nm_r (e' := qd_fill R len (fun i => B (a + i)) (i + 1)) ?_ (nm_r (nI_1 i) key)⟩))
    rw [nI_clamp (by omega), nI_clamp (by omega), ← qd_fill_s]
theorem qy_rd9 {post : Int32 → SY → Prop} (hB : qd_by B) (hb : bl ≤ 64) (hE2 : E ≤ 255) (hF : F ≤ 15) (hK : K ≤ 6) (hT8 : T ≤ 8) :
    ∀ g s a len R, g + s = bl + 1 → s ≤ a → a ≤ bl → len ≤ 32 →
      (∀ W, qr_read B bl F E K T g s a len R = W → ∀ at0, post (qr_ans W.1 W.2.1) (nI n, nI bl, nI ol, at0, fL, fX, fD, nI F, nI E, nI K, nI T, S, B, O, W.2.2, EN)) →
      ∀ f, g < f → wY_read_9 post f (nI len) (nI s) (nI n) (nI bl) (nI ol) (nI a) fL fX fD (nI F) (nI E) (nI K) (nI T) S B O R EN := by
  intro g
  induction g with
  | zero => intro s a len R hg hs ha hl h f hf; omega
  | succ g ih =>
    intro s a len R hg hs ha hl h f hf
    obtain ⟨f, rfl⟩ : ∃ f', f = f' + 1 := ⟨f - 1, by omega⟩
    by_cases c0 : bl ≤ a
    · have t := h (3, len, R) (by rw [qr_read, if_pos c0]) (nI a)
      exact br_c (fun _ => t) (fun _ => br_t (nI_le c0 (by omega)) t)
    · have hc := qr_ce hB a
      have hc2 := hc.2
      have ed : B (nI a).toNatClampNeg / 16 = nI (qr_c B a / 16) := by rw [qx_g (a := B), hc.1]; exact pk_div (d := 16) (by omega) (by omega) (by omega)
      have er : B (nI a).toNatClampNeg - B (nI a).toNatClampNeg / 16 * 16 = nI (qr_c B a % 16) := by rw [qx_g (a := B), hc.1]; exact pk_rem (d := 16) (by omega) (by omega) (by omega)
      have hv : vp_in (nI a) 64 := vp_in_nI (by omega) (by decide)
      refine br_f (nI_ge (b := 64) (by omega) (by decide)) (br_f (nI_ge (by omega) (by omega)) ⟨hv, by decide, nm_r ed (nm_r (nI_1 a) ⟨hv, by decide, nm_r er ?_⟩)⟩)
      by_cases c1 : F < qr_c B a / 16
      · exact br_t (nI_lt c1 (by omega)) (h (4, len, R) (by rw [qr_read, if_neg c0, if_pos (Or.inl c1)]) _)
      · refine br_f (nI_nlt (by omega) (by omega)) ?_
        by_cases c2 : F < qr_c B a % 16
        · exact br_f (nI_ge c2 (by omega)) (h (4, len, R) (by rw [qr_read, if_neg c0, if_pos (Or.inr c2)]) _)
        · have e0 : qr_read B bl F E K T (g + 1) s a len R = qr_l1 B bl F E K T (fun a' len' res' => qr_read B bl F E K T g (s + 1) a' len' res') s len (qr_c B a % 16) R (qr_number B bl F E (a + 1) (qr_c B a / 16)) := by
            rw [qr_read, if_neg c0, if_neg (by omega)]
          rw [e0] at h
          have nb := qr_number_b (bl := bl) (F := F) (E := E) (a := a + 1) (x := qr_c B a / 16) hB (by omega) hb
          refine br_t (nI_le (by omega) (by omega)) (qy_rn hB hb hE2 hF (by omega) (by omega) ?_)
          generalize qr_number B bl F E (a + 1) (qr_c B a / 16) = nl at h nb
          obtain ⟨c, l, a2⟩ := nl
          dsimp only at nb ⊢
          by_cases c3 : c = 0
          · subst c3
            rw [qr_ans0]
            have e1 : nI bl - nI a2 = nI (bl - a2) := pk_sub nb.2.2.1
            refine br_f (nI_pos (by omega)) ?_
            by_cases c4 : bl - a2 < l
            · refine br_f (by rw [e1]; exact nI_ge c4 (by omega)) ?_
              unfold wY_read_106
              exact br_t (nI_pos' (by omega)) (h (3, len, R) (by unfold qr_l1; rw [if_neg (by dsimp only; omega), if_pos c4]) _)
            · refine br_t (by rw [e1]; exact nI_le (by omega) (by omega)) ?_
              by_cases c5 : 32 - len < l
              · exact br_f (by rw [nI_add]; exact nI_ge (a := 32) (by omega) (by omega)) (h (6, len, R) (by unfold qr_l1; rw [if_neg (by dsimp only; omega), if_neg c4, if_pos c5]) _)
              · refine br_t (by rw [nI_add]; exact nI_le (b := 32) (by omega) (by decide)) ⟨l + 1, ?_⟩
                have hbad : a2 + l = bl → (qr_c B a % 16 ≠ 0 ∨ (0 < s ∧ l < T)) → qr_l1 B bl F E K T (fun a' len' res' => qr_read B bl F E K T g (s + 1) a' len' res') s len (qr_c B a % 16) R (0, l, a2) = (7, len + l, qd_fill R len (fun i => B (a2 + i)) l) := by
                  intro c6 z
                  unfold qr_l1
                  rw [if_neg (by dsimp only; omega), if_neg c4, if_neg c5, if_pos (by dsimp only; omega), if_pos z]
                have hgood : a2 + l = bl → ¬ (qr_c B a % 16 ≠ 0 ∨ (0 < s ∧ l < T)) → qr_l1 B bl F E K T (fun a' len' res' => qr_read B bl F E K T g (s + 1) a' len' res') s len (qr_c B a % 16) R (0, l, a2) = (0, len + l, qd_fill R len (fun i => B (a2 + i)) l) := by
                  intro c6 z
                  unfold qr_l1
                  rw [if_neg (by dsimp only; omega), if_neg c4, if_neg c5, if_pos (by dsimp only; omega), if_neg z]
                have em : a2 + l < bl → qr_l1 B bl F E K T (fun a' len' res' => qr_read B bl F E K T g (s + 1) a' len' res') s len (qr_c B a % 16) R (0, l, a2) =
                    qr_m1 B bl F E K (fun a' len' res' => qr_read B bl F E K T g (s + 1) a' len' res') (a2 + l) (len + l) (qr_c B a % 16) (qd_fill R len (fun i => B (a2 + i)) l) := by
                  intro c6
                  unfold qr_l1
                  rw [if_neg (by dsimp only; omega), if_neg c4, if_neg c5, if_neg (by dsimp only; omega)]
                have fin : ∀ f', wY_read_134 post (wY_read_9 post f) (nI s) (nI (qr_c B a % 16)) (nI l) (nI n) (nI bl) (nI ol) fL fX fD (nI F) (nI E) (nI K) (nI T) (f' + 1) (nI (len + l)) (nI l) (nI (a2 + l)) S B O (qd_fill R len (fun i => B (a2 + i)) l) EN := by
                  refine qy_134e (k := fun a' len' res' => qr_read B bl F E K T g (s + 1) a' len' res') hB hb hE2 hF hK hT8 (by omega) (by omega) (by omega) (by omega) (by omega) (fun c6 z => h _ (hbad c6 z) _) (fun c6 z => h _ (hgood c6 z) _) (fun c at0 c6 hc0 hc8 e => ?_) (fun m a' R' c6 e h1 h2 h3 => ?_)
                  · have t := h _ ((em c6).trans e) at0
                    dsimp only at t
                    rw [qr_ansn hc0] at t
                    exact t
                  · exact ih (s + 1) a' (len + l + m) R' (by omega) (by omega) (by omega) (by omega) (fun W hW => h W (((em c6).trans e).trans hW)) f (by omega)
                have key := qy_134 (R := R) (a := a2) hb (by omega) (by omega) fin l 0 (by omega) (l + 1) (by omega)
                rw [qd_fill_0] at key
                exact key
          · refine br_t (qr_ans_neg c3 (by omega)) ?_
            unfold wY_read_106
            refine br_f (qr_nn c3 (by omega)) ?_
            have t := h (c, len, R) (by unfold qr_l1; rw [if_pos c3]) (nI a2)
            dsimp only at t
            rw [qr_ansn c3] at t ⊢
            exact t
theorem qy_rd {post : Int32 → SY → Prop} (hB : qd_by B) (hb : bl ≤ 64) (hE2 : E ≤ 255) (hF : F ≤ 15) (hK : K ≤ 6) (hT8 : T ≤ 8)
    (h : ∀ W, qr_read B bl F E K T (bl + 1) 0 0 0 R = W → ∀ at0, post (qr_ans W.1 W.2.1) (nI n, nI bl, nI ol, at0, fL, fX, fD, nI F, nI E, nI K, nI T, S, B, O, W.2.2, EN)) : wpY_read post (nI n, nI bl, nI ol, at0, fL, fX, fD, nI F, nI E, nI K, nI T, S, B, O, R, EN) :=
  ⟨bl + 2, qy_rd9 hB hb hE2 hF hK hT8 (bl + 1) 0 0 0 R (by omega) (by omega) (by omega) (by omega) h (bl + 2) (by omega)⟩
end
end
section
/-! the reference's search -/
theorem qy_cmp {F E x i : Nat} (hE : 2 ≤ E) (hE2 : E ≤ 255) (hF : F ≤ 15) (hx : x ≤ 32) (hi : i ≤ 33) : nI x - nI F < nI i * nI E ↔ qd_ext F E x ≤ i := by
  have hm : i * E ≤ 33 * 255 := Nat.mul_le_mul hi hE2
  by_cases c : F ≤ x
  · have := qd_ext_i (i := i) (show 0 < E by omega) c
    rw [pk_sub c, pk_mul, nI_ltI (by omega) (by omega)]
    omega
  · rw [pk_mul, Int32.lt_iff_toInt_lt, pk_sub_toInt (by omega) (by omega), nI_toInt (by omega), qd_ext_lt (by omega)]
    generalize i * E = w
    omega
theorem qy_left {c h e : Nat} (hc : c ≤ 100) (hh : h ≤ 100) (he : e ≤ 100) : (nI c - nI h - 2 - nI e ≤ 0 ↔ c ≤ h + (2 + e)) ∧ (h + (2 + e) < c → nI c - nI h - 2 - nI e = nI (c - (h + (2 + e)))) := by
  have e1 : nI c - nI h - 2 - nI e = nI c - nI (h + (2 + e)) := by
    rw [← nI_add, ← nI_add, show nI 2 = (2 : Int32) from rfl]
    generalize nI c = x
    generalize nI h = y
    generalize nI e = z
    grind
  rw [e1]
  refine ⟨?_, fun z => pk_sub (by omega)⟩
  rw [Int32.le_iff_toInt_le, pk_sub_toInt (by omega) (by omega), show (0 : Int32).toInt = 0 from by decide]
  omega
section
variable {F E K T n bl ol : Nat} {at0 fL fX fD : Int32} {S B O R EN : Nat → Int32}
theorem qy_xc4 {post : Int32 → Prop} {x : Nat} (hE : 2 ≤ E) (hE2 : E ≤ 255) (hF2 : 2 ≤ F) (hF : F ≤ 15) (hx : x ≤ 32) (h : post (nI (qd_ext F E x))) :
    ∀ k i, i + k = qd_ext F E x → ∀ f, k < f → wY_extCells_4 post (nI x) (nI n) (nI bl) (nI ol) at0 fL fX fD (nI F) (nI E) (nI K) (nI T) S B O R EN f (nI i) (nI i) := by
  have h16 := qd_ext16 (F := F) (E := E) (x := x) hE hF2 hx
  intro k
  induction k with
  | zero =>
    intro i hi f hf
    obtain ⟨f, rfl⟩ : ∃ f', f = f' + 1 := ⟨f - 1, by omega⟩
    have e : qd_ext F E x = i := by omega
    rw [e] at h
    exact br_f (nI_nlt (a := 32) (by omega) (by decide)) (br_t ((qy_cmp hE hE2 hF hx (by omega)).mpr (by omega)) h)
  | succ k ih =>
    intro i hi f hf
    obtain ⟨f, rfl⟩ : ∃ f', f = f' + 1 := ⟨f - 1, by omega⟩
    exact br_f (nI_nlt (a := 32) (by omega) (by decide)) (br_f (fun z => absurd ((qy_cmp hE hE2 hF hx (by omega)).mp z) (by omega)) (nm_r (nI_1 i) (nm_r (nI_1 i) (ih (i + 1) (by omega) f (by omega)))))
theorem qy_xc {post : Int32 → Prop} {x : Nat} (hE : 2 ≤ E) (hE2 : E ≤ 255) (hF2 : 2 ≤ F) (hF : F ≤ 15) (hx : x ≤ 32) (h : post (nI (qd_ext F E x))) : wpY_extCells post (nI n, nI bl, nI ol, at0, fL, fX, fD, nI F, nI E, nI K, nI T, S, B, O, R, EN) (nI x) :=
  ⟨qd_ext F E x + 1, qy_xc4 hE hE2 hF2 hF hx h (qd_ext F E x) 0 (by omega) (qd_ext F E x + 1) (by omega)⟩
theorem qy_ds13 {post J : Int32 → Prop} {q m d : Nat} (hq : q + m ≤ 32) (hd : d ≤ q) (h1 : qd_rep S q m d → post (nI d)) (h0 : ¬ qd_rep S q m d → J (nI (d + 1))) :
    ∀ k i w, i + k = m → w ≤ i → (w = i ↔ ∀ j, j < i → S (q + j) = S (q + j - d)) → ∀ f, k < f → wY_distance_13 post J (nI q) (nI m) (nI d) (nI n) (nI bl) (nI ol) at0 fL fX fD (nI F) (nI E) (nI K) (nI T) S B O R EN f (nI w) (nI i) := by
  intro k
  induction k with
  | zero =>
    intro i w hi hw hr f hf
    obtain ⟨f, rfl⟩ : ∃ f', f = f' + 1 := ⟨f - 1, by omega⟩
    have e : i = m := by omega
    subst e
    refine br_t (nI_le (by omega) (by omega)) ?_
    by_cases c : w = i
    · exact br_t (by rw [c]) (h1 (hr.mp c))
    · exact br_f (fun z => c ((nI_eq (by omega) (by omega)).mp z)) (nm_r (nI_1 d) (h0 (fun z => c (hr.mpr z))))
  | succ k ih =>
    intro i w hi hw hr f hf
    obtain ⟨f, rfl⟩ : ∃ f', f = f' + 1 := ⟨f - 1, by omega⟩
    have ea : nI q + nI i = nI (q + i) := nI_add _ _
    have es : nI (q + i) - nI d = nI (q + i - d) := pk_sub (by omega)
    refine br_f (nI_ge (by omega) (by omega)) ⟨by rw [ea]; exact vp_in_nI (by omega) (by decide), by rw [ea, es]; exact vp_in_nI (by omega) (by decide), ?_⟩
    rw [ea, es, nI_clamp (by omega), nI_clamp (by omega)]
    by_cases c : S (q + i) = S (q + i - d)
    · refine br_t c (nm_r (nI_1 w) (nm_r (nI_1 i) (ih (i + 1) (w + 1) (by omega) (by omega) ⟨fun z => lt_s (hr.mp (by omega)) c, fun z => ?_⟩ f (by omega))))
      have := hr.mpr (fun j hj => z j (by omega))
      omega
    · refine br_f c (nm_r (nI_1 i) (ih (i + 1) w (by omega) (by omega) ⟨fun z => absurd z (by omega), fun z => absurd (z i (by omega)) c⟩ f (by omega)))
theorem qy_ds2 {post : Int32 → Prop} {q m : Nat} (hq : q + m ≤ 32) (h : post (nI (qd_D S q m))) :
    ∀ k d, d + k = q + 1 → 1 ≤ d → (∀ e, 1 ≤ e → e < d → ¬ qd_rep S q m e) → ∀ f, k < f → wY_distance_2 post (nI q) (nI m) (nI n) (nI bl) (nI ol) at0 fL fX fD (nI F) (nI E) (nI K) (nI T) S B O R EN f (nI d) := by
  intro k
  induction k with
  | zero =>
    intro d hd h1 hr f hf
    obtain ⟨f, rfl⟩ : ∃ f', f = f' + 1 := ⟨f - 1, by omega⟩
    have e : qd_D S q m = 0 := qd_De (Or.inl ⟨rfl, fun e g1 g2 => hr e g1 (by omega)⟩)
    rw [e] at h
    exact br_t (nI_lt (by omega) (by omega)) h
  | succ k ih =>
    intro d hd h1 hr f hf
    obtain ⟨f, rfl⟩ : ∃ f', f = f' + 1 := ⟨f - 1, by omega⟩
    refine br_f (nI_nlt (by omega) (by omega)) ⟨m + 1, qy_ds13 hq (by omega) (fun y => ?_) (fun y => ?_) m 0 0 (by omega) (by omega) ⟨fun _ => lt_0, fun _ => rfl⟩ (m + 1) (by omega)⟩
    · have e : qd_D S q m = d := qd_De (Or.inr ⟨h1, by omega, y, hr⟩)
      rw [e] at h
      exact h
    · refine ih (d + 1) (by omega) (by omega) (fun e g1 g2 => ?_) f (by omega)
      by_cases c : e = d
      · rw [c]; exact y
      · exact hr e g1 (by omega)
theorem qy_ds {post : Int32 → Prop} {q m : Nat} (hq : q + m ≤ 32) (h : post (nI (qd_D S q m))) : wpY_distance post (nI n, nI bl, nI ol, at0, fL, fX, fD, nI F, nI E, nI K, nI T, S, B, O, R, EN) (nI q) (nI m) :=
  ⟨q + 2, qy_ds2 hq h q 1 (by omega) (by omega) (fun e g1 g2 => absurd g2 (by omega)) (q + 2) (by omega)⟩
theorem qy_152 {post : Int32 → SY → Prop} {J2 : Int32 → Int32 → Int32 → Int32 → Prop} {J86 : Int32 → Int32 → Int32 → Prop} {x1 x2 x3 x4 x5 x6 : Int32} (h : J86 (x6 + (-1)) x6 0) : wY_find_152 post J2 J86 x1 x2 x3 x4 x5 x6 (nI n) (nI bl) (nI ol) at0 fL fX 0 (nI F) (nI E) (nI K) (nI T) S B O R EN := by
  unfold wY_find_152
  exact br_t (by decide) (nm_e h)
theorem qy_f86 {post : Int32 → SY → Prop} {J : Int32 → Int32 → Int32 → Int32 → Prop} {p c l : Nat} (hE : 2 ≤ E) (hE2 : E ≤ 255) (hF2 : 2 ≤ F) (hF : F ≤ 15) (hK3 : 3 ≤ K) (hn : n ≤ 32) (hc : c ≤ 64) (hl : p + l ≤ n)
    (hJ : ∀ m0, m0 < K → qd_none S n F E K (qd_en EN) p c l m0 → ∀ fX, J (nI (l + 1)) (nI l) fX 0)
    (hm : ∀ m, qd_yok S n F E K (qd_en EN) p c l m → (∀ a b, qd_bef a b l m → ¬ qd_yok S n F E K (qd_en EN) p c a b) → post 1 (nI n, nI bl, nI ol, at0, nI l, nI (m - K), nI (qd_D S (p + l) m), nI F, nI E, nI K, nI T, S, B, O, R, EN)) :
    ∀ k, p + l + K + k ≤ n + 1 → qd_none S n F E K (qd_en EN) p c l (K + k - 1) → ∀ fX f, k < f →
      wY_find_86 post J (nI p) (nI c) (nI l) (nI (p + l)) (nI (qd_hd F E l)) (nI n) (nI bl) (nI ol) at0 (nI l) (nI F) (nI E) (nI K) (nI T) S B O R EN f (nI k + (-1)) fX 0 := by
  have h49 := qd_hd49 (F := F) (E := E) (l := l) hE hF2 (by omega)
  intro k
  induction k with
  | zero =>
    intro hk hno fX f hf
    obtain ⟨f, rfl⟩ : ∃ f', f = f' + 1 := ⟨f - 1, by omega⟩
    exact br_t (by decide) (nm_r (nI_1 l) (hJ (K + 0 - 1) (by omega) hno fX))
  | succ x ih =>
    intro hk hno fX f hf
    obtain ⟨f, rfl⟩ : ∃ f', f = f' + 1 := ⟨f - 1, by omega⟩
    rw [pk_m1]
    have h16 := qd_ext16 (F := F) (E := E) (x := x) hE hF2 (by omega)
    obtain ⟨l1, l2⟩ := qy_left (c := c) (h := qd_hd F E l) (e := qd_ext F E x) (by omega) (by omega) (by omega)
    have eK : K + x - K = x := by omega
    have hsk : ¬ qd_yok S n F E K (qd_en EN) p c l (K + x) → wY_find_86 post J (nI p) (nI c) (nI l) (nI (p + l)) (nI (qd_hd F E l)) (nI n) (nI bl) (nI ol) at0 (nI l) (nI F) (nI E) (nI K) (nI T) S B O R EN f (nI x + (-1)) (nI x) 0 :=
      fun z => ih (by omega) (by have := qd_none_skip hno (by rw [show K + (x + 1) - 1 = K + x by omega]; exact z) (by omega); rw [show K + (x + 1) - 1 - 1 = K + x - 1 by omega] at this; exact this) (nI x) f (by omega)
    refine br_f (nI_pos (by omega)) (qy_xc hE hE2 hF2 hF (by omega) (nm_e ?_))
    by_cases c1 : c ≤ qd_hd F E l + (2 + qd_ext F E x)
    · refine br_t (l1.mpr c1) (qy_152 (hsk (fun z => ?_)))
      obtain ⟨_, w, w0, w1, _⟩ := z
      rw [eK] at w1
      omega
    · refine br_f (fun z => c1 (l1.mp z)) ?_
      rw [l2 (by omega)]
      generalize hw : c - (qd_hd F E l + (2 + qd_ext F E x)) = w
      have ei : (nI (p + l) + nI K + nI x) * 64 + nI w = nI ((p + l + (K + x)) * 64 + w) := by
        rw [nI_add, nI_add, show (nI (p + l + K + x)) * (64 : Int32) = nI ((p + l + K + x) * 64) from pk_mul _ 64, nI_add]
        exact congrArg nI (by omega)
      refine ⟨by rw [ei]; exact vp_in_nI (by omega) (by decide), ?_⟩
      rw [ei, nI_clamp (by omega)]
      by_cases c2 : EN ((p + l + (K + x)) * 64 + w) = 0
      · refine br_t c2 (qy_152 (hsk (fun z => ?_)))
        obtain ⟨_, w', w0, w1, w2⟩ := z
        rw [eK] at w1
        have : w' = w := by omega
        rw [this] at w2
        exact w2 c2
      · refine br_f c2 ?_
        rw [show nI K + nI x = nI (K + x) from nI_add _ _]
        refine qy_ds (by omega) ?_
        by_cases c3 : qd_D S (p + l) (K + x) = 0
        · rw [c3]
          refine qy_152 (hsk (fun z => ?_))
          have := z.1.2.2
          omega
        · have hDl := qd_Dle S (p + l) (K + x)
          have hp := hm (K + x) ⟨⟨by omega, by omega, by omega⟩, w, by omega, by rw [eK]; omega, c2⟩ (by rw [show K + (x + 1) - 1 = K + x by omega] at hno; exact hno)
          rw [eK] at hp
          unfold wY_find_152
          exact br_f (nI_nle (by omega) (by omega)) hp
theorem qy_f72 {post : Int32 → SY → Prop} {J : Int32 → Int32 → Int32 → Int32 → Prop} {p c l : Nat} (hE : 2 ≤ E) (hE2 : E ≤ 255) (hF2 : 2 ≤ F) (hF : F ≤ 15) (hK3 : 3 ≤ K) (hK : K ≤ 6) (hn : n ≤ 32) (hc : c ≤ 64) (hl : p + l ≤ n)
    (hno : qd_none S n F E K (qd_en EN) p c l (n - p - l))
    (hJ : ∀ m0, m0 < K → qd_none S n F E K (qd_en EN) p c l m0 → ∀ fX, J (nI (l + 1)) (nI l) fX 0)
    (hm : ∀ m, qd_yok S n F E K (qd_en EN) p c l m → (∀ a b, qd_bef a b l m → ¬ qd_yok S n F E K (qd_en EN) p c a b) → post 1 (nI n, nI bl, nI ol, at0, nI l, nI (m - K), nI (qd_D S (p + l) m), nI F, nI E, nI K, nI T, S, B, O, R, EN)) :
    wY_find_72 post J (nI p) (nI c) (nI l) (nI (p + l)) (nI (qd_hd F E l)) (nI n) (nI bl) (nI ol) at0 (nI l) 0 0 (nI F) (nI E) (nI K) (nI T) S B O R EN := by
  unfold wY_find_72
  by_cases c1 : K ≤ n - p - l
  · have e : nI n - nI (p + l) - nI K = nI (n - p - l - K + 1) + (-1) := by
      rw [pk_sub hl, pk_sub (by omega), pk_m1]
      exact congrArg nI (by omega)
    exact nm_r e ⟨n + 2, qy_f86 hE hE2 hF2 hF hK3 hn hc hl hJ hm (n - p - l - K + 1) (by omega) (by rw [show K + (n - p - l - K + 1) - 1 = n - p - l by omega]; exact hno) 0 (n + 2) (by omega)⟩
  · refine nm_e ⟨1, br_t ?_ (nm_r (nI_1 l) (hJ _ (by omega) hno 0))⟩
    rw [pk_sub hl]
    exact pk_sneg (by omega) (by omega)
theorem qy_f2 {post : Int32 → SY → Prop} {p c : Nat} (hE : 2 ≤ E) (hE2 : E ≤ 255) (hF2 : 2 ≤ F) (hF : F ≤ 15) (hK3 : 3 ≤ K) (hK : K ≤ 6) (hT8 : T ≤ 8) (hn : n ≤ 32) (hc : c ≤ 64) (hp : p ≤ n)
    (hm : ∀ l m, qd_yok S n F E K (qd_en EN) p c l m → (∀ a b, qd_bef a b l m → ¬ qd_yok S n F E K (qd_en EN) p c a b) → post 1 (nI n, nI bl, nI ol, at0, nI l, nI (m - K), nI (qd_D S (p + l) m), nI F, nI E, nI K, nI T, S, B, O, R, EN))
    (hf : qd_yfin n F E T p c → (∀ a b, ¬ qd_yok S n F E K (qd_en EN) p c a b) → post 1 (nI n, nI bl, nI ol, at0, nI (n - p), 0, 0, nI F, nI E, nI K, nI T, S, B, O, R, EN))
    (h0 : ¬ qd_yfin n F E T p c → (∀ a b, ¬ qd_yok S n F E K (qd_en EN) p c a b) → ∀ fL fX fD, post 0 (nI n, nI bl, nI ol, at0, fL, fX, fD, nI F, nI E, nI K, nI T, S, B, O, R, EN)) :
    ∀ k l, l + k = n - p + 1 → qd_none S n F E K (qd_en EN) p c l (n - p - l) → (n - p < l → ¬ qd_yfin n F E T p c) → ∀ fL fX fD f, k < f →
      wY_find_2 post (nI p) (nI c) (nI n) (nI bl) (nI ol) at0 (nI F) (nI E) (nI K) (nI T) S B O R EN f (nI l) fL fX fD := by
  have en : nI n - nI p = nI (n - p) := pk_sub hp
  intro k
  induction k with
  | zero =>
    intro l hl hno hy fL fX fD f hf'
    obtain ⟨f, rfl⟩ : ∃ f', f = f' + 1 := ⟨f - 1, by omega⟩
    exact br_t (by rw [en]; exact nI_lt (by omega) (by omega)) (h0 (hy (by omega)) (qd_none_all hno (by omega)) fL fX fD)
  | succ k ih =>
    intro l hl hno hy fL fX fD f hf'
    obtain ⟨f, rfl⟩ : ∃ f', f = f' + 1 := ⟨f - 1, by omega⟩
    have h49 := qd_hd49 (F := F) (E := E) (l := l) hE hF2 (by omega)
    refine br_f (by rw [en]; exact nI_nlt (by omega) (by omega)) (nm_r (nI_add p l) (qy_xc hE hE2 hF2 hF (by omega) (nm_r (e' := nI (qd_hd F E l)) ?_ ?_)))
    · rw [show (1 : Int32) + nI (qd_ext F E l) = nI (1 + qd_ext F E l) from nI_add 1 _, nI_add]
      rfl
    · have w72 : (l = n - p → ¬ qd_yfin n F E T p c) → wY_find_72 post (wY_find_2 post (nI p) (nI c) (nI n) (nI bl) (nI ol) at0 (nI F) (nI E) (nI K) (nI T) S B O R EN f) (nI p) (nI c) (nI l) (nI (p + l)) (nI (qd_hd F E l)) (nI n) (nI bl) (nI ol) at0 (nI l) 0 0 (nI F) (nI E) (nI K) (nI T) S B O R EN := by
        intro hy2
        exact qy_f72 hE hE2 hF2 hF hK3 hK hn hc (by omega) hno (fun m0 h1 h2 fX => ih (l + 1) (by omega) (qd_none_next h2 h1 (by omega)) (fun z => hy2 (by omega)) (nI l) fX 0 f (by omega)) (hm l)
      by_cases c1 : p + l = n
      · refine br_t (by rw [c1]) ?_
        have el : n - p = l := by omega
        have hall := qd_none_all hno (by omega)
        by_cases c2 : qd_hd F E l = c
        · refine br_t (by rw [c2]) ?_
          by_cases c3 : p = 0
          · have t := hf ⟨Or.inl c3, by rw [el]; exact c2⟩ hall
            rw [el] at t
            exact br_t (by rw [c3]; rfl) t
          · refine br_f (nI_ne0 (by omega) (by omega)) ?_
            by_cases c4 : l < T
            · exact br_t (nI_lt c4 (by omega)) (w72 (fun _ z => by have := z.1; unfold qd_fin at this; omega))
            · have t := hf ⟨Or.inr (by omega), by rw [el]; exact c2⟩ hall
              rw [el] at t
              exact br_f (nI_nlt (by omega) (by omega)) t
        · exact br_f (fun z => c2 ((nI_eq (by omega) (by omega)).mp z)) (w72 (fun _ z => c2 (by have := z.2; rw [el] at this; exact this)))
      · exact br_f (fun z => c1 ((nI_eq (by omega) (by omega)).mp z)) (w72 (fun z => absurd z (by omega)))
theorem qy_f {post : Int32 → SY → Prop} {p c : Nat} (hE : 2 ≤ E) (hE2 : E ≤ 255) (hF2 : 2 ≤ F) (hF : F ≤ 15) (hK3 : 3 ≤ K) (hK : K ≤ 6) (hT8 : T ≤ 8) (hn : n ≤ 32) (hc : c ≤ 64) (hp : p ≤ n)
    (hm : ∀ l m, qd_yok S n F E K (qd_en EN) p c l m → (∀ a b, qd_bef a b l m → ¬ qd_yok S n F E K (qd_en EN) p c a b) → post 1 (nI n, nI bl, nI ol, at0, nI l, nI (m - K), nI (qd_D S (p + l) m), nI F, nI E, nI K, nI T, S, B, O, R, EN))
    (hf : qd_yfin n F E T p c → (∀ a b, ¬ qd_yok S n F E K (qd_en EN) p c a b) → post 1 (nI n, nI bl, nI ol, at0, nI (n - p), 0, 0, nI F, nI E, nI K, nI T, S, B, O, R, EN))
    (h0 : ¬ qd_yfin n F E T p c → (∀ a b, ¬ qd_yok S n F E K (qd_en EN) p c a b) → ∀ fL fX fD, post 0 (nI n, nI bl, nI ol, at0, fL, fX, fD, nI F, nI E, nI K, nI T, S, B, O, R, EN)) : wpY_find post (nI n, nI bl, nI ol, at0, fL, fX, fD, nI F, nI E, nI K, nI T, S, B, O, R, EN) (nI p) (nI c) :=
  ⟨n - p + 2, qy_f2 hE hE2 hF2 hF hK3 hK hT8 hn hc hp hm hf h0 (n - p + 1) 0 (by omega) (qd_none_0 (by omega)) (fun z => absurd z (by omega)) fL fX fD (n - p + 2) (by omega)⟩
theorem qy_nb0 : vp_nar .boolean 0 = 0 := by rfl
theorem qy_nb1 : vp_nar .boolean 1 = 1 := by rfl
theorem qy_s10 {post : Int32 → SY → Prop} {J : Int32 → Int32 → Int32 → Int32 → Int32 → Int32 → Int32 → Int32 → Int32 → Int32 → Int32 → Int32 → (Nat → Int32) → (Nat → Int32) → (Nat → Int32) → (Nat → Int32) → (Nat → Int32) → Prop}
    {c : Nat} (hE : 2 ≤ E) (hE2 : E ≤ 255) (hF2 : 2 ≤ F) (hF : F ≤ 15) (hK3 : 3 ≤ K) (hK : K ≤ 6) (hT8 : T ≤ 8) (hn : n ≤ 32) (hc1 : 1 ≤ c) (hc : c < 64)
    (hJ : ∀ EN fL fX fD, qd_Loc S n F E K T (qd_en EN) c → ¬ qd_en EN 0 c → (∀ w, 1 ≤ w → w < c → ¬ qd_en EN 0 w) → J (nI (c + 1)) (nI n) (nI bl) (nI ol) at0 fL fX fD (nI F) (nI E) (nI K) (nI T) S B O R EN)
    (hpost : ∀ EN fL fX fD, qd_Loc S n F E K T (qd_en EN) c → qd_en EN 0 c → (∀ w, 1 ≤ w → w < c → ¬ qd_en EN 0 w) → post (nI c) (nI n, nI bl, nI ol, at0, fL, fX, fD, nI F, nI E, nI K, nI T, S, B, O, R, EN)) :
    ∀ k p EN fL fX fD, p + k = n + 1 → qd_col S n F E K T EN c p → (∀ w, 1 ≤ w → w < c → ¬ qd_en EN 0 w) → ∀ f, k < f → wY_shortest_10 post J (nI c) f (nI p) (nI n) (nI bl) (nI ol) at0 fL fX fD (nI F) (nI E) (nI K) (nI T) S B O R EN := by
  intro k
  induction k with
  | zero =>
    intro p EN fL fX fD hp hcol hmin f hf
    obtain ⟨f, rfl⟩ : ∃ f', f = f' + 1 := ⟨f - 1, by omega⟩
    have e : p = n + 1 := by omega
    subst e
    have hL := qd_col_next hc1 hcol
    have e0 : qd_en EN 0 c ↔ ¬ EN c = 0 := by unfold qd_en; rw [Nat.zero_mul, Nat.zero_add]
    refine br_t (nI_lt (by omega) (by omega)) ⟨vp_in_nI (by omega) (by decide), ?_⟩
    rw [qx_g (a := EN)]
    by_cases c0 : EN c = 0
    · exact br_t c0 (nm_r (nI_1 c) (hJ EN fL fX fD hL (fun z => (e0.mp z) c0) hmin))
    · exact br_f c0 (hpost EN fL fX fD hL (e0.mpr c0) hmin)
  | succ k ih =>
    intro p EN fL fX fD hp hcol hmin f hf
    obtain ⟨f, rfl⟩ : ∃ f', f = f' + 1 := ⟨f - 1, by omega⟩
    have ei : nI p * 64 + nI c = nI (p * 64 + c) := by
      rw [show nI p * (64 : Int32) = nI (p * 64) from pk_mul _ 64, nI_add]
    have hv : vp_in (nI p * 64 + nI c) 2112 := by rw [ei]; exact vp_in_nI (by omega) (by decide)
    have eu : ∀ v : Int32, upd EN (nI p * 64 + nI c).toNatClampNeg v = upd EN (p * 64 + c) v := fun v => by rw [ei, nI_clamp (by omega)]
    have hmin' : ∀ v : Int32, ∀ w, 1 ≤ w → w < c → ¬ qd_en (upd EN (p * 64 + c) v) 0 w := by
      intro v w h1 h2
      have := hmin w h1 h2
      unfold qd_en at this ⊢
      rw [pk_un (by omega)]
      exact this
    have step : ∀ v : Int32, ∀ fL fX fD, (¬ v = 0 ↔ qd_rhs S n F E K T (qd_en EN) p c) → wY_shortest_10 post J (nI c) f (nI (p + 1)) (nI n) (nI bl) (nI ol) at0 fL fX fD (nI F) (nI E) (nI K) (nI T) S B O R (upd EN (p * 64 + c) v) :=
      fun v fL fX fD hv => ih (p + 1) _ fL fX fD (by omega) (qd_col_s hn hc1 hc (by omega) hcol hv) (hmin' v) f (by omega)
    refine br_f (nI_nlt (by omega) (by omega)) (qy_f hE hE2 hF2 hF hK3 hK hT8 hn (by omega) (by omega) (fun l m hy hb => ?_) (fun hy hb => ?_) (fun hy hb fL fX fD => ?_))
    · exact ⟨hv, nm_r (by rw [eu, qy_nb1]) (nm_r (nI_1 p) (step 1 _ _ _ ⟨fun _ => Or.inr ⟨l, m, hy⟩, fun _ => by decide⟩))⟩
    · exact ⟨hv, nm_r (by rw [eu, qy_nb1]) (nm_r (nI_1 p) (step 1 _ _ _ ⟨fun _ => Or.inl hy, fun _ => by decide⟩))⟩
    · exact ⟨hv, nm_r (by rw [eu, qy_nb0]) (nm_r (nI_1 p) (step 0 _ _ _ ⟨fun z => absurd rfl z, fun z => (z.elim hy (fun ⟨l, m, y⟩ => hb l m y)).elim⟩))⟩
theorem qy_s2 {post : Int32 → SY → Prop} (hE : 2 ≤ E) (hE2 : E ≤ 255) (hF2 : 2 ≤ F) (hF : F ≤ 15) (hK3 : 3 ≤ K) (hK : K ≤ 6) (hT8 : T ≤ 8) (hn : n ≤ 32)
    (h : ∀ c EN fL fX fD, 1 ≤ c → c ≤ 49 → qd_Loc S n F E K T (qd_en EN) c → qd_en EN 0 c → (∀ w, 1 ≤ w → w < c → ¬ qd_en EN 0 w) → post (nI c) (nI n, nI bl, nI ol, at0, fL, fX, fD, nI F, nI E, nI K, nI T, S, B, O, R, EN)) :
    ∀ k c EN fL fX fD, c + k = qd_hd F E n → 1 ≤ c → qd_Loc S n F E K T (qd_en EN) (c - 1) → (∀ w, 1 ≤ w → w < c → ¬ qd_en EN 0 w) → ∀ f, k < f → wY_shortest_2 post f (nI c) (nI n) (nI bl) (nI ol) at0 fL fX fD (nI F) (nI E) (nI K) (nI T) S B O R EN := by
  have h49 := qd_hd49 (F := F) (E := E) (l := n) hE hF2 hn
  intro k
  induction k with
  | zero =>
    intro c EN fL fX fD hc h1 hL hmin f hf
    obtain ⟨f, rfl⟩ : ∃ f', f = f' + 1 := ⟨f - 1, by omega⟩
    refine br_f (nI_ge (b := 64) (by omega) (by decide)) ⟨n + 2, qy_s10 hE hE2 hF2 hF hK3 hK hT8 hn h1 (by omega) (fun EN fL fX fD g1 g2 g3 => ?_) (fun EN fL fX fD g1 g2 g3 => h c EN fL fX fD h1 (by omega) g1 g2 g3) (n + 1) 0 EN fL fX fD (by omega) (qd_col_0 hL) hmin (n + 2) (by omega)⟩
    exact absurd (qd_Loc_end g1 (by omega) h1) g2
  | succ k ih =>
    intro c EN fL fX fD hc h1 hL hmin f hf
    obtain ⟨f, rfl⟩ : ∃ f', f = f' + 1 := ⟨f - 1, by omega⟩
    refine br_f (nI_ge (b := 64) (by omega) (by decide)) ⟨n + 2, qy_s10 hE hE2 hF2 hF hK3 hK hT8 hn h1 (by omega) (fun EN fL fX fD g1 g2 g3 => ?_) (fun EN fL fX fD g1 g2 g3 => h c EN fL fX fD h1 (by omega) g1 g2 g3) (n + 1) 0 EN fL fX fD (by omega) (qd_col_0 hL) hmin (n + 2) (by omega)⟩
    refine ih (c + 1) EN fL fX fD (by omega) (by omega) g1 (fun w w1 w2 => ?_) f (by omega)
    by_cases e : w = c
    · rw [e]; exact g2
    · exact g3 w w1 (by omega)
theorem qy_s {post : Int32 → SY → Prop} (hE : 2 ≤ E) (hE2 : E ≤ 255) (hF2 : 2 ≤ F) (hF : F ≤ 15) (hK3 : 3 ≤ K) (hK : K ≤ 6) (hT8 : T ≤ 8) (hn : n ≤ 32)
    (h : ∀ c EN fL fX fD, 1 ≤ c → c ≤ 49 → qd_Loc S n F E K T (qd_en EN) c → qd_en EN 0 c → (∀ w, 1 ≤ w → w < c → ¬ qd_en EN 0 w) → post (nI c) (nI n, nI bl, nI ol, at0, fL, fX, fD, nI F, nI E, nI K, nI T, S, B, O, R, EN)) : wpY_shortest post (nI n, nI bl, nI ol, at0, fL, fX, fD, nI F, nI E, nI K, nI T, S, B, O, R, EN) := by
  have hp := qd_hd_pos F E n
  exact ⟨qd_hd F E n, qy_s2 hE hE2 hF2 hF hK3 hK hT8 hn h (qd_hd F E n - 1) 1 EN fL fX fD (by omega) (by omega) qd_Loc_0 (fun w w1 w2 => absurd w2 (by omega)) (qd_hd F E n) (by omega)⟩
end
end
section
/-! the reference's writer -/
section
variable {F E K T n bl ol : Nat} {at0 fL fX fD : Int32} {S B O R EN : Nat → Int32}
theorem qy_feed {post : Int32 → SY → Prop} {v : Int32} (hb : bl < 64) (h : post (nI (bl + 1)) (nI n, nI (bl + 1), nI ol, at0, fL, fX, fD, nI F, nI E, nI K, nI T, S, upd B bl (v &&& 255), O, R, EN)) : wpY_feed post (nI n, nI bl, nI ol, at0, fL, fX, fD, nI F, nI E, nI K, nI T, S, B, O, R, EN) v :=
  br_t (nI_lt (b := 64) hb (by decide)) (nm_r (nI_1 bl) ⟨vp_in_nI hb (by decide), nm_r qx_u h⟩)
theorem qy_feedb {post : Int32 → SY → Prop} {v : Int32} (hv : ∃ c, c < 256 ∧ v = nI c) (hb : bl < 64) (h : post (nI (bl + 1)) (nI n, nI (bl + 1), nI ol, at0, fL, fX, fD, nI F, nI E, nI K, nI T, S, upd B bl v, O, R, EN)) : wpY_feed post (nI n, nI bl, nI ol, at0, fL, fX, fD, nI F, nI E, nI K, nI T, S, B, O, R, EN) v :=
  qy_feed hb (by rw [qd_and' hv]; exact h)
theorem qy_feedn {post : Int32 → SY → Prop} {v : Int32} {c : Nat} (e : v = nI c) (hc : c < 256) (hb : bl < 64) (h : post (nI (bl + 1)) (nI n, nI (bl + 1), nI ol, at0, fL, fX, fD, nI F, nI E, nI K, nI T, S, upd B bl (nI c), O, R, EN)) : wpY_feed post (nI n, nI bl, nI ol, at0, fL, fX, fD, nI F, nI E, nI K, nI T, S, B, O, R, EN) v := by
  rw [e]
  exact qy_feedb ⟨c, hc, rfl⟩ hb h
theorem qy_fld {post : Int32 → Prop} {x : Nat} (hF : F ≤ 15) (hx : x < 1000000) (h : post (nI (qw_fld F x))) : wpY_field post (nI n, nI bl, nI ol, at0, fL, fX, fD, nI F, nI E, nI K, nI T, S, B, O, R, EN) (nI x) := by
  by_cases c : F ≤ x
  · rw [show qw_fld F x = F from if_neg (by omega)] at h
    exact br_t (nI_le c (by omega)) h
  · rw [show qw_fld F x = x from if_pos (by omega)] at h
    exact br_f (nI_ge (by omega) (by omega)) h
theorem qy_we9 {post : SY → Prop} {x : Nat} (hE : 2 ≤ E) (hE2 : E ≤ 255) (hF2 : 2 ≤ F) (hF : F ≤ 15) (hx : x ≤ 32) (hFx : F ≤ x) (hb : bl + qd_ext F E x ≤ 64)
    (h : post (nI n, nI (bl + qd_ext F E x), nI ol, at0, fL, fX, fD, nI F, nI E, nI K, nI T, S, qd_fill B bl (qd_xg F E x) (qd_ext F E x), O, R, EN)) :
    ∀ k i, i + k = (x - F) / E → ∀ f, k + 1 < f → wY_writeExtension_9 post f (nI i) (nI (x - F - i * E)) (nI n) (nI (bl + i)) (nI ol) at0 fL fX fD (nI F) (nI E) (nI K) (nI T) S (qd_fill B bl (qd_xg F E x) i) O R EN := by
  have ee := qd_ext_ge (E := E) hFx
  have h16 := qd_ext16 (F := F) (E := E) (x := x) hE hF2 hx
  have hqr := Nat.div_add_mod' (x - F) E
  have hr := Nat.mod_lt (x - F) (show 0 < E by omega)
  intro k
  induction k with
  | zero =>
    intro i hi f hf
    obtain ⟨f, rfl⟩ : ∃ f', f = f' + 1 + 1 := ⟨f - 2, by omega⟩
    have ei : i = (x - F) / E := by omega
    have er : x - F - i * E = (x - F) % E := by rw [ei]; omega
    rw [er]
    refine br_f (nI_nlt (a := 32) (by omega) (by decide)) (br_f (nI_pos (by omega)) (br_f (nI_ge (by omega) (by omega)) ?_))
    unfold wY_writeExtension_36
    refine qy_feedb ⟨_, by omega, rfl⟩ (by omega) (nm_r (nI_1 i) (nm_e ?_))
    have e : qd_xg F E x i = nI ((x - F) % E) := if_neg (by omega)
    have e2 : qd_ext F E x = i + 1 := by omega
    rw [← e, qd_fill_s]
    rw [e2] at h
    exact br_f (nI_nlt (a := 32) (by omega) (by decide)) (br_t (by rw [e]; exact pk_sneg (by omega) hr) h)
  | succ k ih =>
    intro i hi f hf
    obtain ⟨f, rfl⟩ : ∃ f', f = f' + 1 := ⟨f - 1, by omega⟩
    have hm : (i + 1) * E ≤ (x - F) / E * E := Nat.mul_le_mul_right E (by omega)
    have h1 : (i + 1) * E = i * E + E := by rw [Nat.add_mul, Nat.one_mul]
    refine br_f (nI_nlt (a := 32) (by omega) (by decide)) (br_f (nI_pos (by omega)) (br_t (nI_le (by omega) (by omega)) ?_))
    unfold wY_writeExtension_36
    have e : qd_xg F E x i = nI E := if_pos (by omega)
    refine qy_feedb ⟨E, by omega, rfl⟩ (by omega) (nm_r (nI_1 i) (nm_r (e' := nI (x - F - (i + 1) * E)) ?_ ?_))
    · rw [pk_sub (by omega)]
      exact congrArg nI (by omega)
    · have key := ih (i + 1) (by omega) f (by omega)
      rw [← qd_fill_s, e] at key
      exact key
theorem qy_we {post : SY → Prop} {x : Nat} (hE : 2 ≤ E) (hE2 : E ≤ 255) (hF2 : 2 ≤ F) (hF : F ≤ 15) (hx : x ≤ 32) (hb : bl + qd_ext F E x ≤ 64)
    (h : post (nI n, nI (bl + qd_ext F E x), nI ol, at0, fL, fX, fD, nI F, nI E, nI K, nI T, S, qd_fill B bl (qd_xg F E x) (qd_ext F E x), O, R, EN)) : wpY_writeExtension post (nI n, nI bl, nI ol, at0, fL, fX, fD, nI F, nI E, nI K, nI T, S, B, O, R, EN) (nI x) := by
  by_cases c : F ≤ x
  · have key := qy_we9 (T := T) (K := K) (n := n) (ol := ol) (at0 := at0) (fL := fL) (fX := fX) (fD := fD) (S := S) (O := O) (R := R) (EN := EN) hE hE2 hF2 hF hx c hb h ((x - F) / E) 0 (by omega) ((x - F) / E + 2) (by omega)
    rw [qd_fill_0, Nat.zero_mul] at key
    exact nm_r (pk_sub c) ⟨_, key⟩
  · rw [qd_ext_lt (by omega), qd_fill_0] at h
    exact nm_e ⟨1, br_f (by decide) (br_t (pk_sneg (by omega) (by omega)) h)⟩
theorem qy_e82 {post : Int32 → SY → Prop} {J : Int32 → Int32 → Int32 → Int32 → Int32 → Int32 → Int32 → Int32 → Int32 → Int32 → Int32 → Int32 → Int32 → (Nat → Int32) → (Nat → Int32) → (Nat → Int32) → (Nat → Int32) → (Nat → Int32) → Prop}
    {x1 : Int32} {p s l : Nat} (hS : qd_by S) (hp : p + l ≤ 32) (hb : bl + l ≤ 64)
    (h : ∀ f, wY_encode_82 post J x1 (nI p) (nI s) (f + 1) (nI l) (nI n) (nI (bl + l)) (nI ol) at0 (nI l) fX fD (nI F) (nI E) (nI K) (nI T) S (qd_fill B bl (fun i => S (p + i)) l) O R EN) :
    ∀ k i, i + k = l → ∀ f, k < f → wY_encode_82 post J x1 (nI p) (nI s) f (nI i) (nI n) (nI (bl + i)) (nI ol) at0 (nI l) fX fD (nI F) (nI E) (nI K) (nI T) S (qd_fill B bl (fun i => S (p + i)) i) O R EN := by
  intro k
  induction k with
  | zero =>
    intro i hi f hf
    obtain ⟨f, rfl⟩ : ∃ f', f = f' + 1 := ⟨f - 1, by omega⟩
    have e : i = l := by omega
    rw [e]
    exact h f
  | succ k ih =>
    intro i hi f hf
    obtain ⟨f, rfl⟩ : ∃ f', f = f' + 1 := ⟨f - 1, by omega⟩
    have ea : nI p + nI i = nI (p + i) := nI_add _ _
    refine br_f (nI_ge (by omega) (by omega)) ⟨by rw [ea]; exact vp_in_nI (by omega) (by decide), ?_⟩
    rw [ea, qx_g (a := S)]
    refine qy_feedb (hS _) (by omega) (nm_r (nI_1 i) ?_)
    have key := ih (i + 1) (by omega) f (by omega)
    rw [← qd_fill_s] at key
    exact key
theorem qy_e144 {post : Int32 → SY → Prop} {J : Int32 → Int32 → Int32 → Int32 → Int32 → Int32 → Int32 → Int32 → Int32 → Int32 → Int32 → Int32 → Int32 → (Nat → Int32) → (Nat → Int32) → (Nat → Int32) → (Nat → Int32) → (Nat → Int32) → Prop}
    {x1 : Int32} {p s l x : Nat} (hE : 2 ≤ E) (hE2 : E ≤ 255) (hF2 : 2 ≤ F) (hF : F ≤ 15) (hx : x ≤ 32) (hb : bl + qd_ext F E x ≤ 64)
    (h : J (nI (p + l + (K + x))) (nI (s + 1)) (nI n) (nI (bl + qd_ext F E x)) (nI ol) at0 (nI l) (nI x) fD (nI F) (nI E) (nI K) (nI T) S (qd_fill B bl (qd_xg F E x) (qd_ext F E x)) O R EN) :
    wY_encode_144 post J x1 (nI p) (nI s) (nI n) (nI bl) (nI ol) at0 (nI l) (nI x) fD (nI F) (nI E) (nI K) (nI T) S B O R EN := by
  unfold wY_encode_144
  refine qy_we hE hE2 hF2 hF hx hb (nm_r (e' := nI (p + l + (K + x))) ?_ (nm_r (nI_1 s) h))
  rw [nI_add, nI_add, nI_add]
  exact congrArg nI (by omega)
/-- a sequence's head and literals -/
theorem qy_head {post : Int32 → SY → Prop} {J : Int32 → Int32 → Int32 → Int32 → Int32 → Int32 → Int32 → Int32 → Int32 → Int32 → Int32 → Int32 → Int32 → (Nat → Int32) → (Nat → Int32) → (Nat → Int32) → (Nat → Int32) → (Nat → Int32) → Prop}
    {x1 : Int32} {p s l x : Nat} (hE : 2 ≤ E) (hE2 : E ≤ 255) (hF2 : 2 ≤ F) (hF : F ≤ 15) (hS : qd_by S) (hp : p + l ≤ 32) (hx : x ≤ 32) (hb : bl + qd_hd F E l ≤ 64)
    (h : ∀ f, wY_encode_82 post J x1 (nI p) (nI s) (f + 1) (nI l) (nI n) (nI (bl + qd_hd F E l)) (nI ol) at0 (nI l) (nI x) fD (nI F) (nI E) (nI K) (nI T) S (qw_head S F E B bl p l (16 * qw_fld F l + qw_fld F x)) O R EN) :
    wpY_field (fun r_38 => wpY_field (fun r_55 => ∀ x4 : Int32, x4 = 16 * r_38 + r_55 → wpY_feed (fun _ u => match u with
      | (a1, a2, a3, a4, a5, a6, a7, a8, a9, a10, a11, a12, a13, a14, a15, a16) => wpY_writeExtension (fun u => match u with
        | (b1, b2, b3, b4, b5, b6, b7, b8, b9, b10, b11, b12, b13, b14, b15, b16) => ∃ n82, wY_encode_82 post J x1 (nI p) (nI s) n82 0 b1 b2 b3 b4 b5 b6 b7 b8 b9 b10 b11 b12 b13 b14 b15 b16)
        (a1, a2, a3, a4, a5, a6, a7, a8, a9, a10, a11, a12, a13, a14, a15, a16) a5) (nI n, nI bl, nI ol, at0, nI l, nI x, fD, nI F, nI E, nI K, nI T, S, B, O, R, EN) x4) (nI n, nI bl, nI ol, at0, nI l, nI x, fD, nI F, nI E, nI K, nI T, S, B, O, R, EN) (nI x)) (nI n, nI bl, nI ol, at0, nI l, nI x, fD, nI F, nI E, nI K, nI T, S, B, O, R, EN) (nI l) := by
  have hh : qd_hd F E l = 1 + qd_ext F E l + l := rfl
  have e1 : bl + qd_hd F E l = bl + 1 + qd_ext F E l + l := by omega
  have f1 := qw_fld_le (F := F) (x := l)
  have f2 := qw_fld_le (F := F) (x := x)
  refine qy_fld hF (by omega) (qy_fld hF (by omega) (nm_r (e' := nI (16 * qw_fld F l + qw_fld F x)) ?_ (qy_feedb ⟨_, by omega, rfl⟩ (by omega) (qy_we hE hE2 hF2 hF (by omega) (by omega) ⟨l + 1, ?_⟩))))
  · rw [show (16 : Int32) * nI (qw_fld F l) = nI (16 * qw_fld F l) from pk_mul 16 _, nI_add]
  · rw [e1] at h
    have key := qy_e82 (bl := bl + 1 + qd_ext F E l) hS hp (by omega) h l 0 (by omega) (l + 1) (by omega)
    rw [qd_fill_0] at key
    exact key
theorem qy_e14 {post : Int32 → SY → Prop} {pc pl pm pd : Nat → Nat} {tot : Nat} (hE : 2 ≤ E) (hE2 : E ≤ 255) (hF2 : 2 ≤ F) (hF : F ≤ 15) (hK3 : 3 ≤ K) (hK : K ≤ 6) (hT8 : T ≤ 8) (hn : n ≤ 32) (hS : qd_by S)
    (hP : ∀ p, p ≤ n → qd_PL S n F E K T pc pl pm pd p) (hL : qd_Loc S n F E K T (qd_en EN) tot) (ht : tot ≤ 49) :
    ∀ g p s, p ≤ n → n - p < g → 3 * s ≤ p → ∀ bl B fL fX fD, bl + pc p = tot →
      (∀ fL fX fD, post (nI (qw S F E K pl pm pd g p bl B).1) (nI n, nI (qw S F E K pl pm pd g p bl B).1, nI ol, at0, fL, fX, fD, nI F, nI E, nI K, nI T, S, (qw S F E K pl pm pd g p bl B).2, O, R, EN)) →
      ∀ f, g < f → wY_encode_14 post (nI tot) f (nI p) (nI s) (nI n) (nI bl) (nI ol) at0 fL fX fD (nI F) (nI E) (nI K) (nI T) S B O R EN := by
  intro g
  induction g with
  | zero => intro p s hp hg; omega
  | succ g ih =>
    intro p s hp hg hs bl B fL fX fD hb h f hf
    obtain ⟨f, rfl⟩ : ∃ f', f = f' + 1 + 1 := ⟨f - 2, by omega⟩
    have q2 := (hP p hp).2.1
    refine br_f (nI_ge (b := 32) (by omega) (by decide)) (br_f (nI_ge (by omega) (by omega)) ?_)
    rw [pk_sub (by omega), show tot - bl = pc p by omega]
    refine qy_f hE hE2 hF2 hF hK3 hK hT8 hn (by omega) hp (fun l m hy hfirst => ?_) (fun hy hnone => ?_) (fun hy hnone => ?_)
    · obtain ⟨e1, e2, e3⟩ := qd_pick hP hL (by omega) hp (by omega) hy hfirst
      obtain ⟨hfe, hco⟩ := (qd_yok_iff hP hL (by omega) hp (by omega) l m).mp hy
      have k1 := hfe.1
      have k2 := hfe.2.1
      have k3 := hfe.2.2
      have hDl := qd_Dle S (p + l) m
      unfold qd_cost at hco
      have etok : 16 * qw_fld F l + qw_fld F (m - K) = qw_tok F K l m := by unfold qw_tok; rw [if_neg (by omega)]
      refine br_f (by decide) (qy_head hE hE2 hF2 hF hS (by omega) (by omega) (by omega) (fun f' => ?_))
      have ed : nI (qd_D S (p + l) m) / 256 = nI (qd_D S (p + l) m / 256) := pk_div (d := 256) (by omega) (by omega) (by omega)
      have er : nI (qd_D S (p + l) m) - nI (qd_D S (p + l) m) / 256 * 256 = nI (qd_D S (p + l) m % 256) := pk_rem (d := 256) (by omega) (by omega) (by omega)
      refine br_t (nI_le (by omega) (by omega)) (br_f (nI_nle (by omega) (by omega)) ⟨by decide, ?_⟩)
      refine qy_feedn er (by omega) (by omega) ⟨by decide, qy_feedn ed (by omega) (by omega) (qy_e144 hE hE2 hF2 hF (by omega) (by omega) ?_)⟩
      rw [show p + l + (K + (m - K)) = p + l + m by omega, show bl + qd_hd F E l + 1 + 1 + qd_ext F E (m - K) = bl + qd_hd F E l + (2 + qd_ext F E (m - K)) by omega, etok]
      refine ih (p + l + m) (s + 1) k2 (by omega) (by omega) _ _ _ _ _ (by omega) (fun fL fX fD => ?_) (f + 1) (by omega)
      have t := h fL fX fD
      rw [qw, if_neg (by omega), e1, e2, e3] at t
      exact t
    · obtain ⟨e1, e2, e3⟩ := qd_pickF hP hL (by omega) hp (by omega) hnone
      have etok : 16 * qw_fld F (n - p) + qw_fld F 0 = qw_tok F K (n - p) 0 := by
        unfold qw_tok
        rw [if_pos rfl, show qw_fld F 0 = 0 from if_pos (by omega)]
      refine br_f (by decide) (qy_head (x := 0) hE hE2 hF2 hF hS (by omega) (by omega) (by omega) (fun f' => ?_))
      refine br_t (nI_le (by omega) (by omega)) (br_t (by decide) (qy_e144 (x := 0) hE hE2 hF2 hF (by omega) (by rw [qd_ext_lt (by omega)]; omega) ?_))
      rw [qd_ext_lt (by omega), qd_fill_0, etok]
      have t := h (nI (n - p)) (nI 0) 0
      rw [qw, if_pos e2, e1, e2] at t
      have hh : bl + qd_hd F E (n - p) = tot := by omega
      have t2 : post (nI (bl + qd_hd F E (n - p))) (nI n, nI (bl + qd_hd F E (n - p)), nI ol, at0, nI (n - p), nI 0, 0, nI F, nI E, nI K, nI T, S, qw_head S F E B bl p (n - p) (qw_tok F K (n - p) 0), O, R, EN) := t
      exact br_c (fun _ => t2) (fun _ => br_t (nI_le (by omega) (by omega)) t2)
    · exfalso
      have hB := qd_B hP hL (by omega) (pc p) p hp rfl (by omega)
      rcases (hL p (pc p) hp q2 (by omega)).mp hB with z | ⟨l, m, z⟩
      · exact hy z
      · exact hnone l m z
end
end
section
/-! the small methods of both sides -/
theorem qr_number_c {B : Nat → Int32} {bl F E a x : Nat} (hB : qd_by B) : (qr_number B bl F E a x).1 ≤ 8 := by
  unfold qr_number
  split
  · exact Nat.zero_le _
  · have := (qr_num_b (E := E) hB (bl - a) a x).1
    omega
theorem qr_read_b {B : Nat → Int32} {bl F E K T : Nat} (hB : qd_by B) : ∀ g s a len res, len ≤ 32 → qd_by res →
    (qr_read B bl F E K T g s a len res).1 ≤ 8 ∧ (qr_read B bl F E K T g s a len res).2.1 ≤ 32 ∧ qd_by (qr_read B bl F E K T g s a len res).2.2 := by
  intro g
  induction g with
  | zero => intro s a len res hl hr; exact ⟨(by decide : 3 ≤ 8), hl, hr⟩
  | succ g ih =>
    intro s a len res hl hr
    rw [qr_read]
    have n1 := qr_number_c (bl := bl) (F := F) (E := E) (a := a + 1) (x := qr_c B a / 16) hB
    generalize qr_number B bl F E (a + 1) (qr_c B a / 16) = nl at n1
    obtain ⟨c, l, a2⟩ := nl
    split
    · exact ⟨(by decide : 3 ≤ 8), hl, hr⟩
    split
    · exact ⟨(by decide : 4 ≤ 8), hl, hr⟩
    unfold qr_l1
    dsimp only at n1 ⊢
    have hfil : qd_by (qd_fill res len (fun i => B (a2 + i)) l) := qd_by_fill hr (fun i _ => hB _)
    split
    · exact ⟨n1, hl, hr⟩
    split
    · exact ⟨(by decide : 3 ≤ 8), hl, hr⟩
    split
    · exact ⟨(by decide : 6 ≤ 8), hl, hr⟩
    rename_i h6
    split
    · split
      · exact ⟨(by decide : 7 ≤ 8), (by omega : len + l ≤ 32), hfil⟩
      · exact ⟨(by decide : 0 ≤ 8), (by omega : len + l ≤ 32), hfil⟩
    unfold qr_m1
    have n2 := qr_number_c (bl := bl) (F := F) (E := E) (a := a2 + l + 2) (x := qr_c B a % 16) hB
    generalize qr_number B bl F E (a2 + l + 2) (qr_c B a % 16) = nx at n2
    obtain ⟨c', x, a'⟩ := nx
    split
    · exact ⟨(by decide : 3 ≤ 8), (by omega : len + l ≤ 32), hfil⟩
    split
    · exact ⟨(by decide : 8 ≤ 8), (by omega : len + l ≤ 32), hfil⟩
    unfold qr_m2
    dsimp only at n2 ⊢
    split
    · exact ⟨n2, (by omega : len + l ≤ 32), hfil⟩
    split
    · exact ⟨(by decide : 6 ≤ 8), (by omega : len + l ≤ 32), hfil⟩
    rename_i h7
    exact ih _ _ _ _ (by omega) (qr_by_copy hfil _)
section
variable {F E K T n bl ol : Nat} {rl cu : Int32} {S B O R PC PL PM PD : Nat → Int32} {at0 fL fX fD : Int32} {EN : Nat → Int32}
theorem qx_appS {post : SX → Prop} {c : Int32} (hn : n < 32) (h : post (nI F, nI E, nI K, nI T, nI (n + 1), nI bl, nI ol, rl, cu, upd S n c, B, O, R, PC, PL, PM, PD)) : wpX_appendToSource post (nI F, nI E, nI K, nI T, nI n, nI bl, nI ol, rl, cu, S, B, O, R, PC, PL, PM, PD) c :=
  br_f (nI_ge (b := 32) hn (by decide)) ⟨vp_in_nI hn (by decide), nm_r qx_u (nm_r (nI_1 n) h)⟩
theorem qx_rp23 {post : Int32 → SX → Prop} {v : Int32} {m : Nat} (hm : n + m ≤ 32) (h : post (nI (n + m)) (nI F, nI E, nI K, nI T, nI (n + m), nI bl, nI ol, rl, cu, qd_fill S n (fun _ => v &&& 255) m, B, O, R, PC, PL, PM, PD)) :
    ∀ k i, i + k = m → ∀ f, k < f → wX_repeat_23 post v (nI m) f (nI i) (nI F) (nI E) (nI K) (nI T) (nI (n + i)) (nI bl) (nI ol) rl cu (qd_fill S n (fun _ => v &&& 255) i) B O R PC PL PM PD := by
  intro k
  induction k with
  | zero =>
    intro i hi f hf
    obtain ⟨f, rfl⟩ : ∃ f', f = f' + 1 := ⟨f - 1, by omega⟩
    have e : i = m := by omega
    rw [e]
    exact br_t (nI_le (by omega) (by omega)) h
  | succ k ih =>
    intro i hi f hf
    obtain ⟨f, rfl⟩ : ∃ f', f = f' + 1 := ⟨f - 1, by omega⟩
    have key := ih (i + 1) (by omega) f (by omega)
    rw [← qd_fill_s] at key
    exact br_f (nI_ge (by omega) (by omega)) (qx_appS (by omega) (nm_r (nI_1 i) key))
theorem qy_rp23 {post : Int32 → SY → Prop} {v : Int32} {m : Nat} (hm : n + m ≤ 32) (h : post (nI (n + m)) (nI (n + m), nI bl, nI ol, at0, fL, fX, fD, nI F, nI E, nI K, nI T, qd_fill S n (fun _ => v &&& 255) m, B, O, R, EN)) :
    ∀ k i, i + k = m → ∀ f, k < f → wY_repeat_23 post v (nI m) (nI bl) (nI ol) at0 fL fX fD (nI F) (nI E) (nI K) (nI T) f (nI i) (nI (n + i)) (qd_fill S n (fun _ => v &&& 255) i) B O R EN := by
  intro k
  induction k with
  | zero =>
    intro i hi f hf
    obtain ⟨f, rfl⟩ : ∃ f', f = f' + 1 := ⟨f - 1, by omega⟩
    have e : i = m := by omega
    rw [e]
    exact br_t (nI_le (by omega) (by omega)) h
  | succ k ih =>
    intro i hi f hf
    obtain ⟨f, rfl⟩ : ∃ f', f = f' + 1 := ⟨f - 1, by omega⟩
    have key := ih (i + 1) (by omega) f (by omega)
    rw [← qd_fill_s] at key
    exact br_f (nI_ge (by omega) (by omega)) (nm_r (nI_1 _) ⟨vp_in_nI (by omega) (by decide), nm_r qx_u (nm_r (nI_1 i) key)⟩)
theorem qx_ec39 {post : Int32 → SX → Prop} {d m : Nat} (hd : 1 ≤ d) (hd2 : d ≤ n) (hm : n + m ≤ 32) (h : post (nI (n + m)) (nI F, nI E, nI K, nI T, nI (n + m), nI bl, nI ol, rl, cu, qr_copy S n d m, B, O, R, PC, PL, PM, PD)) :
    ∀ k i, i + k = m → ∀ f, k < f → wX_echo_39 post (nI d) (nI m) f (nI i) (nI F) (nI E) (nI K) (nI T) (nI (n + i)) (nI bl) (nI ol) rl cu (qr_copy S n d i) B O R PC PL PM PD := by
  intro k
  induction k with
  | zero =>
    intro i hi f hf
    obtain ⟨f, rfl⟩ : ∃ f', f = f' + 1 := ⟨f - 1, by omega⟩
    have e : i = m := by omega
    rw [e]
    exact br_t (nI_le (by omega) (by omega)) h
  | succ k ih =>
    intro i hi f hf
    obtain ⟨f, rfl⟩ : ∃ f', f = f' + 1 := ⟨f - 1, by omega⟩
    have es : nI (n + i) - nI d = nI (n + i - d) := pk_sub (by omega)
    refine br_f (nI_ge (by omega) (by omega)) ⟨by rw [es]; exact vp_in_nI (by omega) (by decide), ?_⟩
    rw [es, nI_clamp (by omega)]
    exact qx_appS (by omega) (nm_r (nI_1 i) (ih (i + 1) (by omega) f (by omega)))
theorem qy_ec36 {post : Int32 → SY → Prop} {d m : Nat} (hd : 1 ≤ d) (hd2 : d ≤ n) (hm : n + m ≤ 32) (h : post (nI (n + m)) (nI (n + m), nI bl, nI ol, at0, fL, fX, fD, nI F, nI E, nI K, nI T, qr_copy S n d m, B, O, R, EN)) :
    ∀ k i, i + k = m → ∀ f, k < f → wY_echo_36 post (nI d) (nI m) (nI bl) (nI ol) at0 fL fX fD (nI F) (nI E) (nI K) (nI T) f (nI i) (nI (n + i)) (qr_copy S n d i) B O R EN := by
  intro k
  induction k with
  | zero =>
    intro i hi f hf
    obtain ⟨f, rfl⟩ : ∃ f', f = f' + 1 := ⟨f - 1, by omega⟩
    have e : i = m := by omega
    rw [e]
    exact br_t (nI_le (by omega) (by omega)) h
  | succ k ih =>
    intro i hi f hf
    obtain ⟨f, rfl⟩ : ∃ f', f = f' + 1 := ⟨f - 1, by omega⟩
    have es : nI (n + i) - nI d = nI (n + i - d) := pk_sub (by omega)
    refine br_f (nI_ge (by omega) (by omega)) ⟨by rw [es]; exact vp_in_nI (by omega) (by decide), vp_in_nI (by omega) (by decide), nm_r (e' := qr_copy S n d (i + 1)) ?_ (nm_r (nI_1 i) (nm_r (nI_1 _) (ih (i + 1) (by omega) f (by omega))))⟩
    rw [es, nI_clamp (by omega), nI_clamp (by omega), qr_copy]
theorem qi_f0 {a g : Nat → Int32} {i : Nat} (h : i < 2 ^ 31 := by omega) : upd (qd_fill a 0 g i) (nI i).toNatClampNeg (g (nI i).toNatClampNeg) = qd_fill a 0 g (i + 1) := by
  have := qd_fill_s a 0 g i
  rw [Nat.zero_add] at this
  rw [nI_clamp h]
  exact this
theorem qx_ad2 {post : Int32 → SX → Prop} (ho : ol ≤ 32) (h : post (nI ol) (nI F, nI E, nI K, nI T, nI ol, nI bl, nI ol, rl, cu, qd_fill S 0 O ol, B, O, R, PC, PL, PM, PD)) :
    ∀ k i, i + k = ol → ∀ f, k < f → wX_adopt_2 post (nI F) (nI E) (nI K) (nI T) (nI n) (nI bl) (nI ol) rl cu f (nI i) (qd_fill S 0 O i) B O R PC PL PM PD := by
  intro k
  induction k with
  | zero =>
    intro i hi f hf
    obtain ⟨f, rfl⟩ : ∃ f', f = f' + 1 := ⟨f - 1, by omega⟩
    have e : i = ol := by omega
    rw [e]
    exact br_t (nI_le (by omega) (by omega)) h
  | succ k ih =>
    intro i hi f hf
    obtain ⟨f, rfl⟩ : ∃ f', f = f' + 1 := ⟨f - 1, by omega⟩
    have hv : vp_in (nI i) 32 := vp_in_nI (by omega) (by decide)
    exact br_f (nI_ge (by omega) (by omega)) ⟨hv, hv, nm_r qi_f0 (nm_r (nI_1 i) (ih (i + 1) (by omega) f (by omega)))⟩
theorem qy_ad5 {post : Int32 → SY → Prop} (ho : ol ≤ 32) (h : post (nI ol) (nI ol, nI bl, nI ol, at0, fL, fX, fD, nI F, nI E, nI K, nI T, qd_fill S 0 O ol, B, O, R, EN)) :
    ∀ k i, i + k = ol → ∀ f, k < f → wY_adopt_5 post (nI bl) (nI ol) at0 fL fX fD (nI F) (nI E) (nI K) (nI T) f (nI i) (qd_fill S 0 O i) B O R EN := by
  intro k
  induction k with
  | zero =>
    intro i hi f hf
    obtain ⟨f, rfl⟩ : ∃ f', f = f' + 1 := ⟨f - 1, by omega⟩
    have e : i = ol := by omega
    rw [e]
    exact br_t (nI_le (by omega) (by omega)) h
  | succ k ih =>
    intro i hi f hf
    obtain ⟨f, rfl⟩ : ∃ f', f = f' + 1 := ⟨f - 1, by omega⟩
    have hv : vp_in (nI i) 32 := vp_in_nI (by omega) (by decide)
    exact br_f (nI_ge (by omega) (by omega)) ⟨hv, hv, nm_r qi_f0 (nm_r (nI_1 i) (ih (i + 1) (by omega) f (by omega)))⟩
theorem qx_de13 {post : Int32 → SX → Prop} {len : Nat} (ho : len ≤ 32) (h : post (nI len) (nI F, nI E, nI K, nI T, nI n, nI bl, nI len, nI len, cu, S, B, qd_fill O 0 R len, R, PC, PL, PM, PD)) :
    ∀ k i, i + k = len → ∀ f, k < f → wX_decode_13 post (nI F) (nI E) (nI K) (nI T) (nI n) (nI bl) (nI ol) (nI len) cu f (nI i) S B (qd_fill O 0 R i) R PC PL PM PD := by
  intro k
  induction k with
  | zero =>
    intro i hi f hf
    obtain ⟨f, rfl⟩ : ∃ f', f = f' + 1 := ⟨f - 1, by omega⟩
    have e : i = len := by omega
    rw [e]
    exact br_t (nI_le (by omega) (by omega)) h
  | succ k ih =>
    intro i hi f hf
    obtain ⟨f, rfl⟩ : ∃ f', f = f' + 1 := ⟨f - 1, by omega⟩
    have hv : vp_in (nI i) 32 := vp_in_nI (by omega) (by decide)
    exact br_f (nI_ge (by omega) (by omega)) ⟨hv, hv, nm_r qi_f0 (nm_r (nI_1 i) (ih (i + 1) (by omega) f (by omega)))⟩
theorem qy_de7 {post : Int32 → SY → Prop} {len : Nat} (ho : len ≤ 32) (h : post (nI len) (nI n, nI bl, nI len, at0, fL, fX, fD, nI F, nI E, nI K, nI T, S, B, qd_fill O 0 R len, R, EN)) :
    ∀ k i, i + k = len → ∀ f, k < f → wY_decode_7 post (nI len) (nI n) (nI bl) (nI ol) at0 fL fX fD (nI F) (nI E) (nI K) (nI T) f (nI i) S B (qd_fill O 0 R i) R EN := by
  intro k
  induction k with
  | zero =>
    intro i hi f hf
    obtain ⟨f, rfl⟩ : ∃ f', f = f' + 1 := ⟨f - 1, by omega⟩
    have e : i = len := by omega
    rw [e]
    exact br_t (nI_le (by omega) (by omega)) (br_f (nI_pos (by omega)) h)
  | succ k ih =>
    intro i hi f hf
    obtain ⟨f, rfl⟩ : ∃ f', f = f' + 1 := ⟨f - 1, by omega⟩
    have hv : vp_in (nI i) 32 := vp_in_nI (by omega) (by decide)
    exact br_f (nI_ge (by omega) (by omega)) ⟨hv, hv, nm_r qi_f0 (nm_r (nI_1 i) (ih (i + 1) (by omega) f (by omega)))⟩
theorem qy_su16 {post : Int32 → SY → Prop} (hn : n ≤ 32) (h1 : (∀ j, j < n → R j = S j) → wpY_shortest (fun r u => match u with
      | (a1, a2, a3, a4, a5, a6, a7, a8, a9, a10, a11, a12, a13, a14, a15, a16) => post (nI bl - r) (a1, a2, a3, a4, a5, a6, a7, a8, a9, a10, a11, a12, a13, a14, a15, a16)) (nI n, nI bl, nI ol, at0, fL, fX, fD, nI F, nI E, nI K, nI T, S, B, O, R, EN))
    (h0 : ¬ (∀ j, j < n → R j = S j) → post (-128) (nI n, nI bl, nI ol, at0, fL, fX, fD, nI F, nI E, nI K, nI T, S, B, O, R, EN)) :
    ∀ k i, i + k = n → (∀ j, j < i → R j = S j) → ∀ f, k < f → wY_surplus_16 post (nI n) (nI bl) (nI ol) at0 fL fX fD (nI F) (nI E) (nI K) (nI T) S B O R EN f (nI i) := by
  intro k
  induction k with
  | zero =>
    intro i hi hr f hf
    obtain ⟨f, rfl⟩ : ∃ f', f = f' + 1 := ⟨f - 1, by omega⟩
    exact br_t (nI_le (by omega) (by omega)) (h1 (fun j hj => hr j (by omega)))
  | succ k ih =>
    intro i hi hr f hf
    obtain ⟨f, rfl⟩ : ∃ f', f = f' + 1 := ⟨f - 1, by omega⟩
    have hv : vp_in (nI i) 32 := vp_in_nI (by omega) (by decide)
    refine br_f (nI_ge (by omega) (by omega)) ⟨hv, hv, ?_⟩
    rw [qx_g (a := R), qx_g (a := S)]
    by_cases c : R i = S i
    · exact br_t c (nm_r (nI_1 i) (ih (i + 1) (by omega) (lt_s hr c) f (by omega)))
    · exact br_f c (h0 (fun z => c (z i (by omega))))
end
theorem qi_clamp (v : Int32) (lo hi : Nat) (h : lo ≤ hi) (hh : hi < 1000) : ∃ F, lo ≤ F ∧ F ≤ hi ∧ (∀ post : Int32 → Prop, post (nI F) → wpX_clamp post v (nI lo) (nI hi)) ∧ (∀ (post : Int32 → Prop) (u : SY), post (nI F) → wpY_clamp post u v (nI lo) (nI hi)) := by
  by_cases c : nI lo ≤ v
  · have h0 : ¬ v < 0 := fun z => absurd (Int32.lt_of_le_of_lt (Int32.le_trans (nI_pos' (by omega)) c) z) Int32.lt_irrefl
    obtain ⟨j, hj, rfl⟩ := nI_of h0
    rw [nI_leI (by omega) hj] at c
    by_cases c2 : j ≤ hi
    · refine ⟨j, c, c2, fun post hp => br_t (nI_le c hj) (br_t (nI_le c2 (by omega)) hp), fun post u hp => ?_⟩
      obtain ⟨a1, a2, a3, a4, a5, a6, a7, a8, a9, a10, a11, a12, a13, a14, a15, a16⟩ := u
      exact br_t (nI_le c hj) (br_t (nI_le c2 (by omega)) hp)
    · refine ⟨hi, h, Nat.le_refl _, fun post hp => br_t (nI_le c hj) (br_f (nI_ge (by omega) hj) hp), fun post u hp => ?_⟩
      obtain ⟨a1, a2, a3, a4, a5, a6, a7, a8, a9, a10, a11, a12, a13, a14, a15, a16⟩ := u
      exact br_t (nI_le c hj) (br_f (nI_ge (by omega) hj) hp)
  · refine ⟨lo, Nat.le_refl _, h, fun post hp => br_f c hp, fun post u hp => ?_⟩
    obtain ⟨a1, a2, a3, a4, a5, a6, a7, a8, a9, a10, a11, a12, a13, a14, a15, a16⟩ := u
    exact br_f c hp
end
section
/-! the public methods of both sides, each with a general post -/
section
variable {F E K T n bl ol : Nat} {rl cu : Int32} {S B O R PC PL PM PD : Nat → Int32} {at0 fL fX fD : Int32} {EN : Nat → Int32}
theorem qi_32 (h : n ≤ 32) : (32 : Int32) - nI n = nI (32 - n) := pk_sub (a := 32) h
theorem qx_rp {post : Int32 → SX → Prop} {v : Int32} {m : Nat} (h1 : 1 ≤ m) (hm : n + m ≤ 32) (h : post (nI (n + m)) (nI F, nI E, nI K, nI T, nI (n + m), nI bl, nI ol, rl, cu, qd_fill S n (fun _ => v &&& 255) m, B, O, R, PC, PL, PM, PD)) : wpX_repeat post (nI F, nI E, nI K, nI T, nI n, nI bl, nI ol, rl, cu, S, B, O, R, PC, PL, PM, PD) v (nI m) := by
  have key := qx_rp23 hm h m 0 (by omega) (m + 1) (by omega)
  rw [qd_fill_0] at key
  exact br_t (nI_le (a := 1) h1 (by omega)) (br_t (by rw [qi_32 (by omega)]; exact nI_le (by omega) (by omega)) ⟨_, key⟩)
theorem qy_rp {post : Int32 → SY → Prop} {v : Int32} {m : Nat} (h1 : 1 ≤ m) (hm : n + m ≤ 32) (h : post (nI (n + m)) (nI (n + m), nI bl, nI ol, at0, fL, fX, fD, nI F, nI E, nI K, nI T, qd_fill S n (fun _ => v &&& 255) m, B, O, R, EN)) : wpY_repeat post (nI n, nI bl, nI ol, at0, fL, fX, fD, nI F, nI E, nI K, nI T, S, B, O, R, EN) v (nI m) := by
  have key := qy_rp23 hm h m 0 (by omega) (m + 1) (by omega)
  rw [qd_fill_0] at key
  exact br_t (nI_le (a := 1) h1 (by omega)) (br_t (by rw [qi_32 (by omega)]; exact nI_le (by omega) (by omega)) ⟨_, key⟩)
theorem qx_rpF {post : Int32 → SX → Prop} {v : Int32} {m : Nat} (h1 : 1 ≤ m) (hj : m < 2 ^ 31) (hn : n ≤ 32) (hm : 32 < n + m) (h : post (-1) (nI F, nI E, nI K, nI T, nI n, nI bl, nI ol, rl, cu, S, B, O, R, PC, PL, PM, PD)) : wpX_repeat post (nI F, nI E, nI K, nI T, nI n, nI bl, nI ol, rl, cu, S, B, O, R, PC, PL, PM, PD) v (nI m) :=
  br_t (nI_le (a := 1) h1 hj) (br_f (by rw [qi_32 hn]; exact nI_ge (by omega) hj) h)
theorem qy_rpF {post : Int32 → SY → Prop} {v : Int32} {m : Nat} (h1 : 1 ≤ m) (hj : m < 2 ^ 31) (hn : n ≤ 32) (hm : 32 < n + m) (h : post (-1) (nI n, nI bl, nI ol, at0, fL, fX, fD, nI F, nI E, nI K, nI T, S, B, O, R, EN)) : wpY_repeat post (nI n, nI bl, nI ol, at0, fL, fX, fD, nI F, nI E, nI K, nI T, S, B, O, R, EN) v (nI m) :=
  br_t (nI_le (a := 1) h1 hj) (br_f (by rw [qi_32 hn]; exact nI_ge (by omega) hj) h)
theorem qx_ec {post : Int32 → SX → Prop} {d m : Nat} (hd : 1 ≤ d) (hd2 : d ≤ n) (h1 : 1 ≤ m) (hm : n + m ≤ 32) (h : post (nI (n + m)) (nI F, nI E, nI K, nI T, nI (n + m), nI bl, nI ol, rl, cu, qr_copy S n d m, B, O, R, PC, PL, PM, PD)) : wpX_echo post (nI F, nI E, nI K, nI T, nI n, nI bl, nI ol, rl, cu, S, B, O, R, PC, PL, PM, PD) (nI d) (nI m) :=
  br_f (nI_nlt (b := 1) hd (by omega)) (br_t (nI_le hd2 (by omega)) (br_t (nI_le (a := 1) h1 (by omega)) (br_t (by rw [qi_32 (by omega)]; exact nI_le (by omega) (by omega)) ⟨m + 1, qx_ec39 hd hd2 hm h m 0 (by omega) (m + 1) (by omega)⟩)))
theorem qy_ec {post : Int32 → SY → Prop} {d m : Nat} (hd : 1 ≤ d) (hd2 : d ≤ n) (h1 : 1 ≤ m) (hm : n + m ≤ 32) (h : post (nI (n + m)) (nI (n + m), nI bl, nI ol, at0, fL, fX, fD, nI F, nI E, nI K, nI T, qr_copy S n d m, B, O, R, EN)) : wpY_echo post (nI n, nI bl, nI ol, at0, fL, fX, fD, nI F, nI E, nI K, nI T, S, B, O, R, EN) (nI d) (nI m) :=
  br_f (nI_nlt (b := 1) hd (by omega)) (br_f (nI_nlt hd2 (by omega)) (br_t (nI_le (a := 1) h1 (by omega)) (br_t (by rw [qi_32 (by omega)]; exact nI_le (by omega) (by omega)) ⟨m + 1, qy_ec36 hd hd2 hm h m 0 (by omega) (m + 1) (by omega)⟩)))
theorem qx_ecF {post : Int32 → SX → Prop} {d m : Nat} (hd : 1 ≤ d) (hd2 : d ≤ n) (hn : n ≤ 32) (h1 : 1 ≤ m) (hj : m < 2 ^ 31) (hm : 32 < n + m) (h : post (-1) (nI F, nI E, nI K, nI T, nI n, nI bl, nI ol, rl, cu, S, B, O, R, PC, PL, PM, PD)) : wpX_echo post (nI F, nI E, nI K, nI T, nI n, nI bl, nI ol, rl, cu, S, B, O, R, PC, PL, PM, PD) (nI d) (nI m) :=
  br_f (nI_nlt (b := 1) hd (by omega)) (br_t (nI_le hd2 (by omega)) (br_t (nI_le (a := 1) h1 hj) (br_f (by rw [qi_32 hn]; exact nI_ge (by omega) hj) h)))
theorem qy_ecF {post : Int32 → SY → Prop} {d m : Nat} (hd : 1 ≤ d) (hd2 : d ≤ n) (hn : n ≤ 32) (h1 : 1 ≤ m) (hj : m < 2 ^ 31) (hm : 32 < n + m) (h : post (-1) (nI n, nI bl, nI ol, at0, fL, fX, fD, nI F, nI E, nI K, nI T, S, B, O, R, EN)) : wpY_echo post (nI n, nI bl, nI ol, at0, fL, fX, fD, nI F, nI E, nI K, nI T, S, B, O, R, EN) (nI d) (nI m) :=
  br_f (nI_nlt (b := 1) hd (by omega)) (br_f (nI_nlt hd2 (by omega)) (br_t (nI_le (a := 1) h1 hj) (br_f (by rw [qi_32 hn]; exact nI_ge (by omega) hj) h)))
theorem qx_ln {post : Int32 → Prop} {v : Int32} (h0 : v = 0 → post (nI n)) (h1 : v = 1 → post (nI bl)) (h2 : v = 2 → post (nI ol)) (h3 : ¬ v = 0 → ¬ v = 1 → ¬ v = 2 → post (-2)) : wpX_lengthOf post (nI F, nI E, nI K, nI T, nI n, nI bl, nI ol, rl, cu, S, B, O, R, PC, PL, PM, PD) v :=
  br_c h0 (fun a => br_c h1 (fun b => br_c h2 (fun c => h3 a b c)))
theorem qy_ln {post : Int32 → Prop} {v : Int32} (h0 : v = 0 → post (nI n)) (h1 : v = 1 → post (nI bl)) (h2 : v = 2 → post (nI ol)) (h3 : ¬ v = 0 → ¬ v = 1 → ¬ v = 2 → post (-2)) : wpY_length post (nI n, nI bl, nI ol, at0, fL, fX, fD, nI F, nI E, nI K, nI T, S, B, O, R, EN) v :=
  br_c h0 (fun a => br_c h1 (fun b => br_c h2 (fun c => h3 a b c)))
theorem qi_01 : ¬ (0 : Int32) = 1 := by decide
theorem qi_02 : ¬ (0 : Int32) = 2 := by decide
theorem qi_10 : ¬ (1 : Int32) = 0 := by decide
theorem qi_12 : ¬ (1 : Int32) = 2 := by decide
theorem qi_20 : ¬ (2 : Int32) = 0 := by decide
theorem qi_21 : ¬ (2 : Int32) = 1 := by decide
theorem qx_c0 {post : Int32 → SX → Prop} {j : Nat} (hn : n ≤ 32) (hj : j < 2 ^ 31) (h1 : j ≤ n → post (nI j) (nI F, nI E, nI K, nI T, nI j, nI bl, nI ol, rl, cu, S, B, O, R, PC, PL, PM, PD)) (h2 : ¬ j ≤ n → post (-2) (nI F, nI E, nI K, nI T, nI n, nI bl, nI ol, rl, cu, S, B, O, R, PC, PL, PM, PD)) : wpX_cut post (nI F, nI E, nI K, nI T, nI n, nI bl, nI ol, rl, cu, S, B, O, R, PC, PL, PM, PD) 0 (nI j) := by
  refine br_t rfl ?_
  unfold wX_cut_12
  refine br_f (nI_pos hj) (qx_ln (fun _ => ?_) (fun z => absurd z qi_01) (fun z => absurd z qi_02) (fun z => absurd rfl z))
  by_cases c : j ≤ n
  · exact br_t (nI_le c (by omega)) (br_t rfl (h1 c))
  · exact br_f (nI_ge (by omega) hj) (h2 c)
theorem qy_c0 {post : Int32 → SY → Prop} {j : Nat} (hn : n ≤ 32) (hj : j < 2 ^ 31) (h1 : j ≤ n → post (nI j) (nI j, nI bl, nI ol, at0, fL, fX, fD, nI F, nI E, nI K, nI T, S, B, O, R, EN)) (h2 : ¬ j ≤ n → post (-2) (nI n, nI bl, nI ol, at0, fL, fX, fD, nI F, nI E, nI K, nI T, S, B, O, R, EN)) : wpY_cut post (nI n, nI bl, nI ol, at0, fL, fX, fD, nI F, nI E, nI K, nI T, S, B, O, R, EN) 0 (nI j) := by
  refine br_t rfl ?_
  unfold wY_cut_9
  refine br_f (nI_pos hj) (qy_ln (fun _ => ?_) (fun z => absurd z qi_01) (fun z => absurd z qi_02) (fun z => absurd rfl z))
  by_cases c : j ≤ n
  · exact br_t (nI_le c (by omega)) (br_t rfl (h1 c))
  · exact br_f (nI_ge (by omega) hj) (h2 c)
theorem qx_c1 {post : Int32 → SX → Prop} {j : Nat} (hn : bl ≤ 64) (hj : j < 2 ^ 31) (h1 : j ≤ bl → post (nI j) (nI F, nI E, nI K, nI T, nI n, nI j, nI ol, rl, cu, S, B, O, R, PC, PL, PM, PD)) (h2 : ¬ j ≤ bl → post (-2) (nI F, nI E, nI K, nI T, nI n, nI bl, nI ol, rl, cu, S, B, O, R, PC, PL, PM, PD)) : wpX_cut post (nI F, nI E, nI K, nI T, nI n, nI bl, nI ol, rl, cu, S, B, O, R, PC, PL, PM, PD) 1 (nI j) := by
  refine br_f qi_10 (br_t rfl ?_)
  unfold wX_cut_12
  refine br_f (nI_pos hj) (qx_ln (fun z => absurd z qi_10) (fun _ => ?_) (fun z => absurd z qi_12) (fun _ z => absurd rfl z))
  by_cases c : j ≤ bl
  · exact br_t (nI_le c (by omega)) (br_f qi_10 (h1 c))
  · exact br_f (nI_ge (by omega) hj) (h2 c)
theorem qy_c1 {post : Int32 → SY → Prop} {j : Nat} (hn : bl ≤ 64) (hj : j < 2 ^ 31) (h1 : j ≤ bl → post (nI j) (nI n, nI j, nI ol, at0, fL, fX, fD, nI F, nI E, nI K, nI T, S, B, O, R, EN)) (h2 : ¬ j ≤ bl → post (-2) (nI n, nI bl, nI ol, at0, fL, fX, fD, nI F, nI E, nI K, nI T, S, B, O, R, EN)) : wpY_cut post (nI n, nI bl, nI ol, at0, fL, fX, fD, nI F, nI E, nI K, nI T, S, B, O, R, EN) 1 (nI j) := by
  refine br_f qi_10 (br_t rfl ?_)
  unfold wY_cut_9
  refine br_f (nI_pos hj) (qy_ln (fun z => absurd z qi_10) (fun _ => ?_) (fun z => absurd z qi_12) (fun _ z => absurd rfl z))
  by_cases c : j ≤ bl
  · exact br_t (nI_le c (by omega)) (br_f qi_10 (h1 c))
  · exact br_f (nI_ge (by omega) hj) (h2 c)
theorem qx_cn {post : Int32 → SX → Prop} {v w : Int32} (hw : w < 0) (h : post (-2) (nI F, nI E, nI K, nI T, nI n, nI bl, nI ol, rl, cu, S, B, O, R, PC, PL, PM, PD)) : wpX_cut post (nI F, nI E, nI K, nI T, nI n, nI bl, nI ol, rl, cu, S, B, O, R, PC, PL, PM, PD) v w := by
  refine br_c (fun _ => ?_) (fun _ => br_c (fun _ => ?_) (fun _ => h))
  · unfold wX_cut_12; exact br_t hw h
  · unfold wX_cut_12; exact br_t hw h
theorem qy_cn {post : Int32 → SY → Prop} {v w : Int32} (hw : w < 0) (h : post (-2) (nI n, nI bl, nI ol, at0, fL, fX, fD, nI F, nI E, nI K, nI T, S, B, O, R, EN)) : wpY_cut post (nI n, nI bl, nI ol, at0, fL, fX, fD, nI F, nI E, nI K, nI T, S, B, O, R, EN) v w := by
  refine br_c (fun _ => ?_) (fun _ => br_c (fun _ => ?_) (fun _ => h))
  · unfold wY_cut_9; exact br_t hw h
  · unfold wY_cut_9; exact br_t hw h
theorem qx_ad {post : Int32 → SX → Prop} (ho : ol ≤ 32) (h : post (nI ol) (nI F, nI E, nI K, nI T, nI ol, nI bl, nI ol, rl, cu, qd_fill S 0 O ol, B, O, R, PC, PL, PM, PD)) : wpX_adopt post (nI F, nI E, nI K, nI T, nI n, nI bl, nI ol, rl, cu, S, B, O, R, PC, PL, PM, PD) := by
  have key := qx_ad2 (n := n) ho h ol 0 (by omega) (ol + 1) (by omega)
  rw [qd_fill_0] at key
  exact ⟨_, key⟩
theorem qy_ad {post : Int32 → SY → Prop} (ho : ol ≤ 32) (h : post (nI ol) (nI ol, nI bl, nI ol, at0, fL, fX, fD, nI F, nI E, nI K, nI T, qd_fill S 0 O ol, B, O, R, EN)) : wpY_adopt post (nI n, nI bl, nI ol, at0, fL, fX, fD, nI F, nI E, nI K, nI T, S, B, O, R, EN) := by
  have key := qy_ad5 ho h ol 0 (by omega) (ol + 1) (by omega)
  rw [qd_fill_0] at key
  exact ⟨_, key⟩
theorem qx_de {post : Int32 → SX → Prop} (hB : qd_by B) (hR : qd_by R) (hb : bl ≤ 64) (hE2 : E ≤ 255) (hF : F ≤ 15) (hK : K ≤ 6) (hT8 : T ≤ 8) {c len : Nat} {R' : Nat → Int32}
    (hW : qr_read B bl F E K T (bl + 1) 0 0 0 R = (c, len, R')) (h0 : c = 0 → ∀ cu, post (nI len) (nI F, nI E, nI K, nI T, nI n, nI bl, nI len, nI len, cu, S, B, qd_fill O 0 R' len, R', PC, PL, PM, PD)) (h1 : c ≠ 0 → ∀ cu, post (-nI c) (nI F, nI E, nI K, nI T, nI n, nI bl, nI ol, nI len, cu, S, B, O, R', PC, PL, PM, PD)) : wpX_decode post (nI F, nI E, nI K, nI T, nI n, nI bl, nI ol, rl, cu, S, B, O, R, PC, PL, PM, PD) := by
  have hw := qr_read_b (bl := bl) (F := F) (E := E) (K := K) (T := T) hB (bl + 1) 0 0 0 R (by omega) hR
  rw [hW] at hw
  obtain ⟨w1, w2, w3⟩ := hw
  dsimp only at w1 w2 w3
  unfold wpX_decode
  refine qx_rb hB hb hE2 hF hK hT8 (fun W e cu => ?_)
  rw [hW] at e
  subst e
  dsimp only
  by_cases c0 : c = 0
  · rw [c0, qr_ans0]
    have key := qx_de13 (ol := ol) (R := R') (O := O) w2 (h0 c0 cu) len 0 (by omega) (len + 1) (by omega)
    rw [qd_fill_0] at key
    exact br_t (nI_pos' (by omega)) ⟨_, key⟩
  · rw [qr_ansn c0]
    exact br_f (Int32.not_le.mpr (qr_neg c0 w1)) (h1 c0 cu)
theorem qy_de {post : Int32 → SY → Prop} (hB : qd_by B) (hR : qd_by R) (hb : bl ≤ 64) (hE2 : E ≤ 255) (hF : F ≤ 15) (hK : K ≤ 6) (hT8 : T ≤ 8) {c len : Nat} {R' : Nat → Int32}
    (hW : qr_read B bl F E K T (bl + 1) 0 0 0 R = (c, len, R')) (h0 : c = 0 → ∀ at0, post (nI len) (nI n, nI bl, nI len, at0, fL, fX, fD, nI F, nI E, nI K, nI T, S, B, qd_fill O 0 R' len, R', EN)) (h1 : c ≠ 0 → ∀ at0, post (-nI c) (nI n, nI bl, nI ol, at0, fL, fX, fD, nI F, nI E, nI K, nI T, S, B, O, R', EN)) : wpY_decode post (nI n, nI bl, nI ol, at0, fL, fX, fD, nI F, nI E, nI K, nI T, S, B, O, R, EN) := by
  have hw := qr_read_b (bl := bl) (F := F) (E := E) (K := K) (T := T) hB (bl + 1) 0 0 0 R (by omega) hR
  rw [hW] at hw
  obtain ⟨w1, w2, w3⟩ := hw
  dsimp only at w1 w2 w3
  unfold wpY_decode
  refine qy_rd hB hb hE2 hF hK hT8 (fun W e at0 => ?_)
  rw [hW] at e
  subst e
  dsimp only
  by_cases c0 : c = 0
  · rw [c0, qr_ans0]
    have key := qy_de7 (ol := ol) (R := R') (O := O) w2 (h0 c0 at0) len 0 (by omega) (len + 1) (by omega)
    rw [qd_fill_0] at key
    exact ⟨_, key⟩
  · rw [qr_ansn c0]
    exact ⟨1, br_t (Int32.le_of_lt (qr_neg c0 w1)) (br_t (qr_neg c0 w1) (h1 c0 at0))⟩
def qi_eq (n : Nat) (S : Nat → Int32) (c len : Nat) (R : Nat → Int32) : Prop := c = 0 ∧ len = n ∧ ∀ j, j < n → R j = S j
theorem qx_su {post : Int32 → SX → Prop} (hB : qd_by B) (hR : qd_by R) (hE : 2 ≤ E) (hE2 : E ≤ 255) (hF2 : 2 ≤ F) (hF : F ≤ 15) (hK3 : 3 ≤ K) (hK : K ≤ 6) (hT8 : T ≤ 8) (hn : n ≤ 32) (hb : bl ≤ 64) {c len : Nat} {R' : Nat → Int32}
    (hW : qr_read B bl F E K T (bl + 1) 0 0 0 R = (c, len, R')) (h0 : qi_eq n S c len R' → ∀ cu PC PL PM PD pc pl pm pd, qx_tab F E K T n S PC PL PM PD pc pl pm pd 0 → post (nI bl - nI (pc 0)) (nI F, nI E, nI K, nI T, nI n, nI bl, nI ol, nI len, cu, S, B, O, R', PC, PL, PM, PD))
    (h1 : ¬ qi_eq n S c len R' → ∀ cu, post (-128) (nI F, nI E, nI K, nI T, nI n, nI bl, nI ol, nI len, cu, S, B, O, R', PC, PL, PM, PD)) : wpX_surplus post (nI F, nI E, nI K, nI T, nI n, nI bl, nI ol, rl, cu, S, B, O, R, PC, PL, PM, PD) := by
  have hw := qr_read_b (bl := bl) (F := F) (E := E) (K := K) (T := T) hB (bl + 1) 0 0 0 R (by omega) hR
  rw [hW] at hw
  obtain ⟨w1, w2, w3⟩ := hw
  dsimp only at w1 w2 w3
  unfold wpX_surplus
  refine qx_rb hB hb hE2 hF hK hT8 (fun W e cu => ?_)
  rw [hW] at e
  subst e
  dsimp only
  by_cases c0 : c = 0
  · rw [c0, qr_ans0]
    refine br_t (nI_pos' (by omega)) (qx_re w2 hn (fun e1 e2 => ?_) (fun z => ?_))
    · refine br_f qi_10 (qx_ps hE hE2 hF2 hF hK3 hK hT8 hn (fun PC PL PM PD pc pl pm pd ht => ?_))
      have t := h0 ⟨c0, e1, fun j hj => e2 j (by omega)⟩ cu PC PL PM PD pc pl pm pd ht
      rw [← (ht 0 (Nat.le_refl _) (Nat.zero_le _)).1] at t
      exact t
    · exact br_t rfl (h1 (fun y => z ⟨y.2.1, fun j hj => y.2.2 j (by have := y.2.1; omega)⟩) cu)
  · rw [qr_ansn c0]
    exact br_f (Int32.not_le.mpr (qr_neg c0 w1)) (h1 (fun y => c0 y.1) cu)
theorem qy_su {post : Int32 → SY → Prop} (hB : qd_by B) (hR : qd_by R) (hE : 2 ≤ E) (hE2 : E ≤ 255) (hF2 : 2 ≤ F) (hF : F ≤ 15) (hK3 : 3 ≤ K) (hK : K ≤ 6) (hT8 : T ≤ 8) (hn : n ≤ 32) (hb : bl ≤ 64) {c len : Nat} {R' : Nat → Int32}
    (hW : qr_read B bl F E K T (bl + 1) 0 0 0 R = (c, len, R'))
    (h0 : qi_eq n S c len R' → ∀ at0 w EN fL fX fD, 1 ≤ w → w ≤ 49 → qd_Loc S n F E K T (qd_en EN) w → qd_en EN 0 w → (∀ v, 1 ≤ v → v < w → ¬ qd_en EN 0 v) → post (nI bl - nI w) (nI n, nI bl, nI ol, at0, fL, fX, fD, nI F, nI E, nI K, nI T, S, B, O, R', EN))
    (h1 : ¬ qi_eq n S c len R' → ∀ at0, post (-128) (nI n, nI bl, nI ol, at0, fL, fX, fD, nI F, nI E, nI K, nI T, S, B, O, R', EN)) : wpY_surplus post (nI n, nI bl, nI ol, at0, fL, fX, fD, nI F, nI E, nI K, nI T, S, B, O, R, EN) := by
  have hw := qr_read_b (bl := bl) (F := F) (E := E) (K := K) (T := T) hB (bl + 1) 0 0 0 R (by omega) hR
  rw [hW] at hw
  obtain ⟨w1, w2, w3⟩ := hw
  dsimp only at w1 w2 w3
  unfold wpY_surplus
  refine qy_rd hB hb hE2 hF hK hT8 (fun W e at0 => ?_)
  rw [hW] at e
  subst e
  dsimp only
  by_cases c0 : c = 0
  · rw [c0, qr_ans0]
    by_cases c1 : len = n
    · refine br_t (by rw [c1]) ⟨n + 1, qy_su16 hn (fun z => qy_s hE hE2 hF2 hF hK3 hK hT8 hn (fun w EN fL fX fD g1 g2 g3 g4 g5 => h0 ⟨c0, c1, z⟩ at0 w EN fL fX fD g1 g2 g3 g4 g5)) (fun z => h1 (fun y => z y.2.2) at0) n 0 (by omega) lt_0 (n + 1) (by omega)⟩
    · exact br_f (fun z => c1 ((nI_eq (by omega) (by omega)).mp z)) (h1 (fun y => c1 y.2.1) at0)
  · rw [qr_ansn c0]
    refine br_f (fun z => ?_) (h1 (fun y => c0 y.1) at0)
    have := qr_neg c0 w1
    rw [z] at this
    exact nI_pos (by omega) this
theorem qx_en {post : Int32 → SX → Prop} (hE : 2 ≤ E) (hE2 : E ≤ 255) (hF2 : 2 ≤ F) (hF : F ≤ 15) (hK3 : 3 ≤ K) (hK : K ≤ 6) (hT8 : T ≤ 8) (hn : n ≤ 32)
    (h : ∀ PC PL PM PD pc pl pm pd, qx_tab F E K T n S PC PL PM PD pc pl pm pd 0 → pc 0 ≤ 49 → post (nI (qw S F E K pl pm pd 33 0 0 B).1) (nI F, nI E, nI K, nI T, nI n, nI (qw S F E K pl pm pd 33 0 0 B).1, nI ol, rl, cu, S, (qw S F E K pl pm pd 33 0 0 B).2, O, R, PC, PL, PM, PD)) : wpX_encode post (nI F, nI E, nI K, nI T, nI n, nI bl, nI ol, rl, cu, S, B, O, R, PC, PL, PM, PD) := by
  have h49 := qd_hd49 (F := F) (E := E) (l := n) hE hF2 hn
  unfold wpX_encode
  refine qx_ps hE hE2 hF2 hF hK3 hK hT8 hn (fun PC PL PM PD pc pl pm pd ht => ?_)
  have hc := (ht 0 (Nat.le_refl _) (Nat.zero_le _)).2.2.2.2.2.2.2.1 (Or.inl rfl)
  rw [Nat.sub_zero] at hc
  exact qx_wp hE hE2 hF2 hF hK3 hn ht (by omega) (h PC PL PM PD pc pl pm pd ht (by omega))
theorem qy_en {post : Int32 → SY → Prop} {pc pl pm pd : Nat → Nat} (hE : 2 ≤ E) (hE2 : E ≤ 255) (hF2 : 2 ≤ F) (hF : F ≤ 15) (hK3 : 3 ≤ K) (hK : K ≤ 6) (hT8 : T ≤ 8) (hn : n ≤ 32) (hS : qd_by S)
    (hP : ∀ p, p ≤ n → qd_PL S n F E K T pc pl pm pd p)
    (h : ∀ EN fL fX fD, post (nI (qw S F E K pl pm pd 33 0 0 B).1) (nI n, nI (qw S F E K pl pm pd 33 0 0 B).1, nI ol, at0, fL, fX, fD, nI F, nI E, nI K, nI T, S, (qw S F E K pl pm pd 33 0 0 B).2, O, R, EN)) : wpY_encode post (nI n, nI bl, nI ol, at0, fL, fX, fD, nI F, nI E, nI K, nI T, S, B, O, R, EN) := by
  unfold wpY_encode
  refine qy_s hE hE2 hF2 hF hK3 hK hT8 hn (fun w EN fL fX fD g1 g2 g3 g4 g5 => ?_)
  have e := qd_short hP g3 (by omega) g1 g4 g5
  exact ⟨34, qy_e14 hE hE2 hF2 hF hK3 hK hT8 hn hS hP g3 g2 33 0 0 (by omega) (by omega) (by omega) 0 B fL fX fD (by omega) (fun fL fX fD => h EN fL fX fD) 34 (by omega)⟩
end
end
section
/-! the relation, and what is owed -/
def qi_B (F E K T n bl ol : Nat) : Prop := (2 ≤ F ∧ F ≤ 15) ∧ (2 ≤ E ∧ E ≤ 255) ∧ (3 ≤ K ∧ K ≤ 6) ∧ T ≤ 8 ∧ n ≤ 32 ∧ bl ≤ 64 ∧ ol ≤ 32
def qi_A (S B O R : Nat → Int32) : Prop := qd_by S ∧ qd_by B ∧ qd_by O ∧ qd_by R
def i_Rel (_ : Nat) (u : SX) (v : SY) : Prop := ∃ F E K T n bl ol : Nat, ∃ S B O R : Nat → Int32, qi_B F E K T n bl ol ∧ qi_A S B O R ∧
  (∃ (rl cu : Int32) (PC PL PM PD : Nat → Int32), u = (nI F, nI E, nI K, nI T, nI n, nI bl, nI ol, rl, cu, S, B, O, R, PC, PL, PM, PD)) ∧ (∃ (at0 fL fX fD : Int32) (EN : Nat → Int32), v = (nI n, nI bl, nI ol, at0, fL, fX, fD, nI F, nI E, nI K, nI T, S, B, O, R, EN))
theorem qi_mk {k F E K T n bl ol : Nat} {rl cu : Int32} {S B O R PC PL PM PD : Nat → Int32} {at0 fL fX fD : Int32} {EN : Nat → Int32} (hb : qi_B F E K T n bl ol) (ha : qi_A S B O R) : i_Rel k (nI F, nI E, nI K, nI T, nI n, nI bl, nI ol, rl, cu, S, B, O, R, PC, PL, PM, PD) (nI n, nI bl, nI ol, at0, fL, fX, fD, nI F, nI E, nI K, nI T, S, B, O, R, EN) :=
  ⟨F, E, K, T, n, bl, ol, S, B, O, R, hb, ha, ⟨rl, cu, PC, PL, PM, PD, rfl⟩, ⟨at0, fL, fX, fD, EN, rfl⟩⟩
theorem qi_f1 {a g : Nat → Int32} {b : Nat} : qd_fill a b g 1 = upd a b (g 0) := by
  have := qd_fill_s a b g 0
  rw [qd_fill_0] at this
  exact this.symm
theorem qi_pos {v : Int32} (h : 1 ≤ v) : ∃ j, 1 ≤ j ∧ j < 2 ^ 31 ∧ v = nI j := by
  have h0 : ¬ v < 0 := fun z => absurd (Int32.lt_of_le_of_lt (Int32.le_trans (show (0 : Int32) ≤ 1 by decide) h) z) Int32.lt_irrefl
  obtain ⟨j, hj, rfl⟩ := nI_of h0
  exact ⟨j, (nI_leI (a := 1) (by decide) hj).mp h, hj, rfl⟩
theorem i_up {k : Nat} {u : SX} {v : SY} (h : i_Rel k u v) : i_Rel (k + 3) u v := h
theorem i_vc0 (k0 : Int32) (k1 : Int32) (k2 : Int32) (k3 : Int32) : wpX_init (fun u => wpY_init (fun v => i_Rel 4 u v) k0 k1 k2 k3) k0 k1 k2 k3 := by
  obtain ⟨F, f1, f2, fX, fY⟩ := qi_clamp k0 2 15 (by decide) (by decide)
  obtain ⟨E, e1, e2, eX, eY⟩ := qi_clamp k1 2 255 (by decide) (by decide)
  obtain ⟨K, g1, g2, gX, gY⟩ := qi_clamp k2 3 6 (by decide) (by decide)
  obtain ⟨T, t1, t2, tX, tY⟩ := qi_clamp k3 0 8 (by decide) (by decide)
  unfold wpX_init wpY_init
  exact fX _ (eX _ (gX _ (tX _ (fY _ _ (eY _ _ (gY _ _ (tY _ _ (qi_mk (n := 0) (bl := 0) (ol := 0) ⟨⟨f1, f2⟩, ⟨e1, e2⟩, ⟨g1, g2⟩, t2, by decide, by decide, by decide⟩ ⟨qd_by_0, qd_by_0, qd_by_0, qd_by_0⟩))))))))
theorem i_vc_put {k : Nat} {u : SX} {v : SY} (I : i_Rel k u v) (hk : k + 3 ≤ 1540) (v1 : Int32) : wpX_put (fun r u' => wpY_put (fun r' v' => r' = r ∧ i_Rel (k + 3) u' v') v v1) u v1 := by
  obtain ⟨F, E, K, T, n, bl, ol, S, B, O, R, hb, ha, ⟨rl, cu, PC, PL, PM, PD, rfl⟩, ⟨at0, fL, fX, fD, EN, rfl⟩⟩ := I
  obtain ⟨⟨b1, b2⟩, ⟨b3, b4⟩, ⟨b5, b6⟩, b7, b8, b9, b10⟩ := hb
  obtain ⟨a1, a2, a3, a4⟩ := ha
  by_cases c : n < 32
  · refine br_t (nI_lt (b := 32) c (by decide)) (qx_appS c ?_)
    unfold wpY_put
    refine qy_rp (m := 1) (by decide) (by omega) ?_
    rw [qi_f1]
    exact ⟨rfl, qi_mk ⟨⟨b1, b2⟩, ⟨b3, b4⟩, ⟨b5, b6⟩, b7, by omega, b9, b10⟩ ⟨qd_by_u' a1 (qd_255 v1), a2, a3, a4⟩⟩
  · refine br_f (nI_nlt (b := 32) (by omega) (by omega)) ?_
    unfold wpY_put
    exact qy_rpF (m := 1) (by decide) (by decide) b8 (by omega) ⟨rfl, qi_mk ⟨⟨b1, b2⟩, ⟨b3, b4⟩, ⟨b5, b6⟩, b7, b8, b9, b10⟩ ⟨a1, a2, a3, a4⟩⟩
theorem i_vc_repeat {k : Nat} {u : SX} {v : SY} (I : i_Rel k u v) (hk : k + 3 ≤ 1540) (v1 : Int32) (v2 : Int32) : wpX_repeat (fun r u' => wpY_repeat (fun r' v' => r' = r ∧ i_Rel (k + 3) u' v') v v1 v2) u v1 v2 := by
  obtain ⟨F, E, K, T, n, bl, ol, S, B, O, R, hb, ha, ⟨rl, cu, PC, PL, PM, PD, rfl⟩, ⟨at0, fL, fX, fD, EN, rfl⟩⟩ := I
  obtain ⟨⟨b1, b2⟩, ⟨b3, b4⟩, ⟨b5, b6⟩, b7, b8, b9, b10⟩ := hb
  obtain ⟨a1, a2, a3, a4⟩ := ha
  by_cases c : 1 ≤ v2
  · obtain ⟨j, j1, j2, rfl⟩ := qi_pos c
    by_cases c2 : n + j ≤ 32
    · exact qx_rp j1 c2 (qy_rp j1 c2 ⟨rfl, qi_mk ⟨⟨b1, b2⟩, ⟨b3, b4⟩, ⟨b5, b6⟩, b7, c2, b9, b10⟩ ⟨qd_by_fill a1 (fun _ _ => qd_255 v1), a2, a3, a4⟩⟩)
    · exact qx_rpF j1 j2 b8 (by omega) (qy_rpF j1 j2 b8 (by omega) ⟨rfl, qi_mk ⟨⟨b1, b2⟩, ⟨b3, b4⟩, ⟨b5, b6⟩, b7, b8, b9, b10⟩ ⟨a1, a2, a3, a4⟩⟩)
  · exact br_f c (br_f c ⟨rfl, qi_mk ⟨⟨b1, b2⟩, ⟨b3, b4⟩, ⟨b5, b6⟩, b7, b8, b9, b10⟩ ⟨a1, a2, a3, a4⟩⟩)
theorem i_vc_echo {k : Nat} {u : SX} {v : SY} (I : i_Rel k u v) (hk : k + 3 ≤ 1540) (v1 : Int32) (v2 : Int32) : wpX_echo (fun r u' => wpY_echo (fun r' v' => r' = r ∧ i_Rel (k + 3) u' v') v v1 v2) u v1 v2 := by
  obtain ⟨F, E, K, T, n, bl, ol, S, B, O, R, hb, ha, ⟨rl, cu, PC, PL, PM, PD, rfl⟩, ⟨at0, fL, fX, fD, EN, rfl⟩⟩ := I
  obtain ⟨⟨b1, b2⟩, ⟨b3, b4⟩, ⟨b5, b6⟩, b7, b8, b9, b10⟩ := hb
  obtain ⟨a1, a2, a3, a4⟩ := ha
  by_cases c0 : v1 < 1
  · exact br_t c0 (br_t c0 ⟨rfl, qi_mk ⟨⟨b1, b2⟩, ⟨b3, b4⟩, ⟨b5, b6⟩, b7, b8, b9, b10⟩ ⟨a1, a2, a3, a4⟩⟩)
  · obtain ⟨d, d1, d2, rfl⟩ := qi_pos (Int32.not_lt.mp c0)
    by_cases c1 : d ≤ n
    · by_cases c : 1 ≤ v2
      · obtain ⟨j, j1, j2, rfl⟩ := qi_pos c
        by_cases c2 : n + j ≤ 32
        · exact qx_ec d1 c1 j1 c2 (qy_ec d1 c1 j1 c2 ⟨rfl, qi_mk ⟨⟨b1, b2⟩, ⟨b3, b4⟩, ⟨b5, b6⟩, b7, c2, b9, b10⟩ ⟨qr_by_copy a1 _, a2, a3, a4⟩⟩)
        · exact qx_ecF d1 c1 b8 j1 j2 (by omega) (qy_ecF d1 c1 b8 j1 j2 (by omega) ⟨rfl, qi_mk ⟨⟨b1, b2⟩, ⟨b3, b4⟩, ⟨b5, b6⟩, b7, b8, b9, b10⟩ ⟨a1, a2, a3, a4⟩⟩)
      · exact br_f c0 (br_t (nI_le c1 (by omega)) (br_f c (br_f c0 (br_f (nI_nlt c1 (by omega)) (br_f c ⟨rfl, qi_mk ⟨⟨b1, b2⟩, ⟨b3, b4⟩, ⟨b5, b6⟩, b7, b8, b9, b10⟩ ⟨a1, a2, a3, a4⟩⟩)))))
    · exact br_f c0 (br_f (nI_ge (by omega) d2) (br_f c0 (br_t (nI_lt (by omega) d2) ⟨rfl, qi_mk ⟨⟨b1, b2⟩, ⟨b3, b4⟩, ⟨b5, b6⟩, b7, b8, b9, b10⟩ ⟨a1, a2, a3, a4⟩⟩)))
theorem i_vc_cut {k : Nat} {u : SX} {v : SY} (I : i_Rel k u v) (hk : k + 3 ≤ 1540) (v1 : Int32) (v2 : Int32) : wpX_cut (fun r u' => wpY_cut (fun r' v' => r' = r ∧ i_Rel (k + 3) u' v') v v1 v2) u v1 v2 := by
  obtain ⟨F, E, K, T, n, bl, ol, S, B, O, R, hb, ha, ⟨rl, cu, PC, PL, PM, PD, rfl⟩, ⟨at0, fL, fX, fD, EN, rfl⟩⟩ := I
  obtain ⟨⟨b1, b2⟩, ⟨b3, b4⟩, ⟨b5, b6⟩, b7, b8, b9, b10⟩ := hb
  obtain ⟨a1, a2, a3, a4⟩ := ha
  by_cases c : v2 < 0
  · exact qx_cn c (qy_cn c ⟨rfl, qi_mk ⟨⟨b1, b2⟩, ⟨b3, b4⟩, ⟨b5, b6⟩, b7, b8, b9, b10⟩ ⟨a1, a2, a3, a4⟩⟩)
  · obtain ⟨j, hj, rfl⟩ := nI_of c
    by_cases e0 : v1 = 0
    · subst e0
      exact qx_c0 b8 hj (fun h1 => qy_c0 b8 hj (fun _ => ⟨rfl, qi_mk ⟨⟨b1, b2⟩, ⟨b3, b4⟩, ⟨b5, b6⟩, b7, by omega, b9, b10⟩ ⟨a1, a2, a3, a4⟩⟩) (fun h2 => absurd h1 h2)) (fun h1 => qy_c0 b8 hj (fun h2 => absurd h2 h1) (fun _ => ⟨rfl, qi_mk ⟨⟨b1, b2⟩, ⟨b3, b4⟩, ⟨b5, b6⟩, b7, b8, b9, b10⟩ ⟨a1, a2, a3, a4⟩⟩))
    · by_cases e1 : v1 = 1
      · subst e1
        exact qx_c1 b9 hj (fun h1 => qy_c1 b9 hj (fun _ => ⟨rfl, qi_mk ⟨⟨b1, b2⟩, ⟨b3, b4⟩, ⟨b5, b6⟩, b7, b8, by omega, b10⟩ ⟨a1, a2, a3, a4⟩⟩) (fun h2 => absurd h1 h2)) (fun h1 => qy_c1 b9 hj (fun h2 => absurd h2 h1) (fun _ => ⟨rfl, qi_mk ⟨⟨b1, b2⟩, ⟨b3, b4⟩, ⟨b5, b6⟩, b7, b8, b9, b10⟩ ⟨a1, a2, a3, a4⟩⟩))
      · exact br_f e0 (br_f e1 (br_f e0 (br_f e1 ⟨rfl, qi_mk ⟨⟨b1, b2⟩, ⟨b3, b4⟩, ⟨b5, b6⟩, b7, b8, b9, b10⟩ ⟨a1, a2, a3, a4⟩⟩)))
theorem i_vc_adopt {k : Nat} {u : SX} {v : SY} (I : i_Rel k u v) (hk : k + 3 ≤ 1540) : wpX_adopt (fun r u' => wpY_adopt (fun r' v' => r' = r ∧ i_Rel (k + 3) u' v') v) u := by
  obtain ⟨F, E, K, T, n, bl, ol, S, B, O, R, hb, ha, ⟨rl, cu, PC, PL, PM, PD, rfl⟩, ⟨at0, fL, fX, fD, EN, rfl⟩⟩ := I
  obtain ⟨⟨b1, b2⟩, ⟨b3, b4⟩, ⟨b5, b6⟩, b7, b8, b9, b10⟩ := hb
  obtain ⟨a1, a2, a3, a4⟩ := ha
  exact qx_ad b10 (qy_ad b10 ⟨rfl, qi_mk ⟨⟨b1, b2⟩, ⟨b3, b4⟩, ⟨b5, b6⟩, b7, b10, b9, b10⟩ ⟨qd_by_fill a1 (fun i _ => a3 i), a2, a3, a4⟩⟩)
theorem i_vc_encode {k : Nat} {u : SX} {v : SY} (I : i_Rel k u v) (hk : k + 3 ≤ 1540) : wpX_encode (fun r u' => wpY_encode (fun r' v' => r' = r ∧ i_Rel (k + 3) u' v') v) u := by
  obtain ⟨F, E, K, T, n, bl, ol, S, B, O, R, hb, ha, ⟨rl, cu, PC, PL, PM, PD, rfl⟩, ⟨at0, fL, fX, fD, EN, rfl⟩⟩ := I
  obtain ⟨⟨b1, b2⟩, ⟨b3, b4⟩, ⟨b5, b6⟩, b7, b8, b9, b10⟩ := hb
  obtain ⟨a1, a2, a3, a4⟩ := ha
  refine qx_en b3 b4 b1 b2 b5 b6 b7 b8 (fun PC PL PM PD pc pl pm pd ht hc => ?_)
  have hP : ∀ p, p ≤ n → qd_PL S n F E K T pc pl pm pd p := fun p hp => (ht p (Nat.zero_le _) hp).2.2.2.2
  obtain ⟨o1, o2, _⟩ := qw_ok hP b8 (by omega) a1 (by omega) b4 b2 33 0 0 B (Nat.zero_le _) (by omega) (by omega)
  exact qy_en b3 b4 b1 b2 b5 b6 b7 b8 a1 hP (fun EN fL fX fD => ⟨rfl, qi_mk ⟨⟨b1, b2⟩, ⟨b3, b4⟩, ⟨b5, b6⟩, b7, b8, by omega, b10⟩ ⟨a1, o2 a2, a3, a4⟩⟩)
theorem i_vc_surplus {k : Nat} {u : SX} {v : SY} (I : i_Rel k u v) (hk : k + 3 ≤ 1540) : wpX_surplus (fun r u' => wpY_surplus (fun r' v' => r' = r ∧ i_Rel (k + 3) u' v') v) u := by
  obtain ⟨F, E, K, T, n, bl, ol, S, B, O, R, hb, ha, ⟨rl, cu, PC, PL, PM, PD, rfl⟩, ⟨at0, fL, fX, fD, EN, rfl⟩⟩ := I
  obtain ⟨⟨b1, b2⟩, ⟨b3, b4⟩, ⟨b5, b6⟩, b7, b8, b9, b10⟩ := hb
  obtain ⟨a1, a2, a3, a4⟩ := ha
  have hw := qr_read_b (bl := bl) (F := F) (E := E) (K := K) (T := T) a2 (bl + 1) 0 0 0 R (by omega) a4
  generalize hW : qr_read B bl F E K T (bl + 1) 0 0 0 R = W at hw
  obtain ⟨c, len, R'⟩ := W
  obtain ⟨w1, w2, w3⟩ := hw
  dsimp only at w1 w2 w3
  refine qx_su a2 a4 b3 b4 b1 b2 b5 b6 b7 b8 b9 hW (fun q cu PC PL PM PD pc pl pm pd ht => ?_) (fun q cu => ?_)
  · refine qy_su a2 a4 b3 b4 b1 b2 b5 b6 b7 b8 b9 hW (fun _ at0 w EN fL fX fD g1 g2 g3 g4 g5 => ⟨?_, qi_mk ⟨⟨b1, b2⟩, ⟨b3, b4⟩, ⟨b5, b6⟩, b7, b8, b9, b10⟩ ⟨a1, a2, a3, w3⟩⟩) (fun q' => absurd q q')
    rw [qd_short (fun p hp => (ht p (Nat.zero_le _) hp).2.2.2.2) g3 (by omega) g1 g4 g5]
  · exact qy_su a2 a4 b3 b4 b1 b2 b5 b6 b7 b8 b9 hW (fun q' => absurd q' q) (fun _ at0 => ⟨rfl, qi_mk ⟨⟨b1, b2⟩, ⟨b3, b4⟩, ⟨b5, b6⟩, b7, b8, b9, b10⟩ ⟨a1, a2, a3, w3⟩⟩)
theorem i_vc_feed {k : Nat} {u : SX} {v : SY} (I : i_Rel k u v) (hk : k + 3 ≤ 1540) (v1 : Int32) : wpX_feed (fun r u' => wpY_feed (fun r' v' => r' = r ∧ i_Rel (k + 3) u' v') v v1) u v1 := by
  obtain ⟨F, E, K, T, n, bl, ol, S, B, O, R, hb, ha, ⟨rl, cu, PC, PL, PM, PD, rfl⟩, ⟨at0, fL, fX, fD, EN, rfl⟩⟩ := I
  obtain ⟨⟨b1, b2⟩, ⟨b3, b4⟩, ⟨b5, b6⟩, b7, b8, b9, b10⟩ := hb
  obtain ⟨a1, a2, a3, a4⟩ := ha
  by_cases c : bl < 64
  · exact br_t (nI_lt (b := 64) c (by decide)) (qx_appB c (qy_feed c ⟨rfl, qi_mk ⟨⟨b1, b2⟩, ⟨b3, b4⟩, ⟨b5, b6⟩, b7, b8, c, b10⟩ ⟨a1, qd_by_u' a2 (qd_255 v1), a3, a4⟩⟩))
  · exact br_f (nI_nlt (b := 64) (by omega) (by omega)) (br_f (nI_nlt (b := 64) (by omega) (by omega)) ⟨rfl, qi_mk ⟨⟨b1, b2⟩, ⟨b3, b4⟩, ⟨b5, b6⟩, b7, b8, b9, b10⟩ ⟨a1, a2, a3, a4⟩⟩)
theorem i_vc_poke {k : Nat} {u : SX} {v : SY} (I : i_Rel k u v) (hk : k + 3 ≤ 1540) (v1 : Int32) (v2 : Int32) : wpX_poke (fun r u' => wpY_poke (fun r' v' => r' = r ∧ i_Rel (k + 3) u' v') v v1 v2) u v1 v2 := by
  obtain ⟨F, E, K, T, n, bl, ol, S, B, O, R, hb, ha, ⟨rl, cu, PC, PL, PM, PD, rfl⟩, ⟨at0, fL, fX, fD, EN, rfl⟩⟩ := I
  obtain ⟨⟨b1, b2⟩, ⟨b3, b4⟩, ⟨b5, b6⟩, b7, b8, b9, b10⟩ := hb
  obtain ⟨a1, a2, a3, a4⟩ := ha
  by_cases c : v1 < 0
  · exact br_t c (br_t c ⟨rfl, qi_mk ⟨⟨b1, b2⟩, ⟨b3, b4⟩, ⟨b5, b6⟩, b7, b8, b9, b10⟩ ⟨a1, a2, a3, a4⟩⟩)
  · obtain ⟨j, hj, rfl⟩ := nI_of c
    by_cases c2 : j < bl
    · have hl := nI_lt c2 (show bl < 2 ^ 31 by omega)
      have hv : vp_in (nI j) 64 := vp_in_nI (by omega) (by decide)
      exact br_f c (br_t hl ⟨hv, nm_e ⟨hv, nm_e (br_f c (br_t hl ⟨hv, nm_e ⟨hv, nm_e ⟨rfl, qi_mk ⟨⟨b1, b2⟩, ⟨b3, b4⟩, ⟨b5, b6⟩, b7, b8, b9, b10⟩ ⟨a1, qd_by_u' a2 (qd_255 v2), a3, a4⟩⟩⟩⟩))⟩⟩)
    · have hl := nI_nlt (a := j) (b := bl) (by omega) hj
      exact br_f c (br_f hl (br_f c (br_f hl ⟨rfl, qi_mk ⟨⟨b1, b2⟩, ⟨b3, b4⟩, ⟨b5, b6⟩, b7, b8, b9, b10⟩ ⟨a1, a2, a3, a4⟩⟩)))
theorem i_vc_decode {k : Nat} {u : SX} {v : SY} (I : i_Rel k u v) (hk : k + 3 ≤ 1540) : wpX_decode (fun r u' => wpY_decode (fun r' v' => r' = r ∧ i_Rel (k + 3) u' v') v) u := by
  obtain ⟨F, E, K, T, n, bl, ol, S, B, O, R, hb, ha, ⟨rl, cu, PC, PL, PM, PD, rfl⟩, ⟨at0, fL, fX, fD, EN, rfl⟩⟩ := I
  obtain ⟨⟨b1, b2⟩, ⟨b3, b4⟩, ⟨b5, b6⟩, b7, b8, b9, b10⟩ := hb
  obtain ⟨a1, a2, a3, a4⟩ := ha
  have hw := qr_read_b (bl := bl) (F := F) (E := E) (K := K) (T := T) a2 (bl + 1) 0 0 0 R (by omega) a4
  generalize hW : qr_read B bl F E K T (bl + 1) 0 0 0 R = W at hw
  obtain ⟨c, len, R'⟩ := W
  obtain ⟨w1, w2, w3⟩ := hw
  dsimp only at w1 w2 w3
  exact qx_de a2 a4 b9 b4 b2 b6 b7 hW (fun c0 cu => qy_de a2 a4 b9 b4 b2 b6 b7 hW (fun _ at0 => ⟨rfl, qi_mk ⟨⟨b1, b2⟩, ⟨b3, b4⟩, ⟨b5, b6⟩, b7, b8, b9, w2⟩ ⟨a1, a2, qd_by_fill a3 (fun i _ => w3 i), w3⟩⟩) (fun c1 => absurd c0 c1))
    (fun c0 cu => qy_de a2 a4 b9 b4 b2 b6 b7 hW (fun c1 => absurd c1 c0) (fun _ at0 => ⟨rfl, qi_mk ⟨⟨b1, b2⟩, ⟨b3, b4⟩, ⟨b5, b6⟩, b7, b8, b9, b10⟩ ⟨a1, a2, a3, w3⟩⟩))
theorem i_vc_length {k : Nat} {u : SX} {v : SY} (I : i_Rel k u v) (hk : k + 3 ≤ 1540) (v1 : Int32) : wpX_length (fun r => wpY_length (fun r' => r' = r ∧ i_Rel (k + 3) u v) v v1) u v1 := by
  obtain ⟨F, E, K, T, n, bl, ol, S, B, O, R, hb, ha, ⟨rl, cu, PC, PL, PM, PD, rfl⟩, ⟨at0, fL, fX, fD, EN, rfl⟩⟩ := I
  obtain ⟨⟨b1, b2⟩, ⟨b3, b4⟩, ⟨b5, b6⟩, b7, b8, b9, b10⟩ := hb
  obtain ⟨a1, a2, a3, a4⟩ := ha
  unfold wpX_length
  exact qx_ln (fun e => qy_ln (fun _ => ⟨rfl, qi_mk ⟨⟨b1, b2⟩, ⟨b3, b4⟩, ⟨b5, b6⟩, b7, b8, b9, b10⟩ ⟨a1, a2, a3, a4⟩⟩) (fun z => absurd (e.symm.trans z) qi_01) (fun z => absurd (e.symm.trans z) qi_02) (fun z => absurd e z))
    (fun e => qy_ln (fun z => absurd (z.symm.trans e) qi_01) (fun _ => ⟨rfl, qi_mk ⟨⟨b1, b2⟩, ⟨b3, b4⟩, ⟨b5, b6⟩, b7, b8, b9, b10⟩ ⟨a1, a2, a3, a4⟩⟩) (fun z => absurd (e.symm.trans z) qi_12) (fun _ z => absurd e z))
    (fun e => qy_ln (fun z => absurd (z.symm.trans e) qi_02) (fun z => absurd (z.symm.trans e) qi_12) (fun _ => ⟨rfl, qi_mk ⟨⟨b1, b2⟩, ⟨b3, b4⟩, ⟨b5, b6⟩, b7, b8, b9, b10⟩ ⟨a1, a2, a3, a4⟩⟩) (fun _ _ z => absurd e z))
    (fun e0 e1 e2 => qy_ln (fun z => absurd z e0) (fun z => absurd z e1) (fun z => absurd z e2) (fun _ _ _ => ⟨rfl, qi_mk ⟨⟨b1, b2⟩, ⟨b3, b4⟩, ⟨b5, b6⟩, b7, b8, b9, b10⟩ ⟨a1, a2, a3, a4⟩⟩))
theorem i_vc_cellAt {k : Nat} {u : SX} {v : SY} (I : i_Rel k u v) (hk : k + 3 ≤ 1540) (v1 : Int32) (v2 : Int32) : wpX_cellAt (fun r => wpY_cellAt (fun r' => r' = r ∧ i_Rel (k + 3) u v) v v1 v2) u v1 v2 := by
  obtain ⟨F, E, K, T, n, bl, ol, S, B, O, R, hb, ha, ⟨rl, cu, PC, PL, PM, PD, rfl⟩, ⟨at0, fL, fX, fD, EN, rfl⟩⟩ := I
  obtain ⟨⟨b1, b2⟩, ⟨b3, b4⟩, ⟨b5, b6⟩, b7, b8, b9, b10⟩ := hb
  obtain ⟨a1, a2, a3, a4⟩ := ha
  by_cases c : v2 < 0
  · exact br_t c (br_t c ⟨rfl, qi_mk ⟨⟨b1, b2⟩, ⟨b3, b4⟩, ⟨b5, b6⟩, b7, b8, b9, b10⟩ ⟨a1, a2, a3, a4⟩⟩)
  · obtain ⟨j, hj, rfl⟩ := nI_of c
    refine br_f c (qx_ln (fun e => ?_) (fun e => ?_) (fun e => ?_) (fun e0 e1 e2 => ?_))
    · subst e
      by_cases c2 : j < n
      · have hl := nI_lt c2 (show n < 2 ^ 31 by omega)
        have hv : vp_in (nI j) 32 := vp_in_nI (by omega) (by decide)
        exact br_t hl (br_t rfl ⟨hv, br_f c (qy_ln (fun _ => br_t hl (br_t rfl ⟨hv, ⟨rfl, qi_mk ⟨⟨b1, b2⟩, ⟨b3, b4⟩, ⟨b5, b6⟩, b7, b8, b9, b10⟩ ⟨a1, a2, a3, a4⟩⟩⟩)) (fun z => absurd z qi_01) (fun z => absurd z qi_02) (fun z => absurd rfl z))⟩)
      · have hl := nI_nlt (a := j) (b := n) (by omega) hj
        exact br_f hl (br_f c (qy_ln (fun _ => br_f hl ⟨rfl, qi_mk ⟨⟨b1, b2⟩, ⟨b3, b4⟩, ⟨b5, b6⟩, b7, b8, b9, b10⟩ ⟨a1, a2, a3, a4⟩⟩) (fun z => absurd z qi_01) (fun z => absurd z qi_02) (fun z => absurd rfl z)))
    · subst e
      by_cases c2 : j < bl
      · have hl := nI_lt c2 (show bl < 2 ^ 31 by omega)
        have hv : vp_in (nI j) 64 := vp_in_nI (by omega) (by decide)
        exact br_t hl (br_f qi_10 (br_t rfl ⟨hv, br_f c (qy_ln (fun z => absurd z qi_10) (fun _ => br_t hl (br_f qi_10 (br_t rfl ⟨hv, ⟨rfl, qi_mk ⟨⟨b1, b2⟩, ⟨b3, b4⟩, ⟨b5, b6⟩, b7, b8, b9, b10⟩ ⟨a1, a2, a3, a4⟩⟩⟩))) (fun z => absurd z qi_12) (fun _ z => absurd rfl z))⟩))
      · have hl := nI_nlt (a := j) (b := bl) (by omega) hj
        exact br_f hl (br_f c (qy_ln (fun z => absurd z qi_10) (fun _ => br_f hl ⟨rfl, qi_mk ⟨⟨b1, b2⟩, ⟨b3, b4⟩, ⟨b5, b6⟩, b7, b8, b9, b10⟩ ⟨a1, a2, a3, a4⟩⟩) (fun z => absurd z qi_12) (fun _ z => absurd rfl z)))
    · subst e
      by_cases c2 : j < ol
      · have hl := nI_lt c2 (show ol < 2 ^ 31 by omega)
        have hv : vp_in (nI j) 32 := vp_in_nI (by omega) (by decide)
        exact br_t hl (br_f qi_20 (br_f qi_21 ⟨hv, br_f c (qy_ln (fun z => absurd z qi_20) (fun z => absurd z qi_21) (fun _ => br_t hl (br_f qi_20 (br_f qi_21 ⟨hv, ⟨rfl, qi_mk ⟨⟨b1, b2⟩, ⟨b3, b4⟩, ⟨b5, b6⟩, b7, b8, b9, b10⟩ ⟨a1, a2, a3, a4⟩⟩⟩))) (fun _ _ z => absurd rfl z))⟩))
      · have hl := nI_nlt (a := j) (b := ol) (by omega) hj
        exact br_f hl (br_f c (qy_ln (fun z => absurd z qi_20) (fun z => absurd z qi_21) (fun _ => br_f hl ⟨rfl, qi_mk ⟨⟨b1, b2⟩, ⟨b3, b4⟩, ⟨b5, b6⟩, b7, b8, b9, b10⟩ ⟨a1, a2, a3, a4⟩⟩) (fun _ _ z => absurd rfl z)))
    · have hl : ¬ nI j < -2 := fun z => c (Int32.lt_trans z (by decide))
      exact br_f hl (br_f c (qy_ln (fun z => absurd z e0) (fun z => absurd z e1) (fun z => absurd z e2) (fun _ _ _ => br_f hl ⟨rfl, qi_mk ⟨⟨b1, b2⟩, ⟨b3, b4⟩, ⟨b5, b6⟩, b7, b8, b9, b10⟩ ⟨a1, a2, a3, a4⟩⟩)))
end
