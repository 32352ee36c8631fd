section
/-! numbers of the format, distances, the plan's local conditions, the reach table's local conditions -/
def qd_ext (F E x : Nat) : Nat := if x < F then 0 else (x - F) / E + 1
def qd_hd (F E l : Nat) : Nat := 1 + qd_ext F E l + l
def qd_rep (S : Nat → Int32) (q m d : Nat) : Prop := ∀ i, i < m → S (q + i) = S (q + i - d)
def qd_isD (S : Nat → Int32) (q m d : Nat) : Prop :=
  (d = 0 ∧ ∀ e, 1 ≤ e → e ≤ q → ¬ qd_rep S q m e) ∨
  (1 ≤ d ∧ d ≤ q ∧ qd_rep S q m d ∧ ∀ e, 1 ≤ e → e < d → ¬ qd_rep S q m e)
theorem qd_exD (S : Nat → Int32) (q m : Nat) : ∃ d, qd_isD S q m d := by
  by_cases h : ∃ d, 1 ≤ d ∧ d ≤ q ∧ qd_rep S q m d
  · obtain ⟨d, ⟨h1, h2, h3⟩, h4⟩ := pk_least (fun d => 1 ≤ d ∧ d ≤ q ∧ qd_rep S q m d) h
    exact ⟨d, Or.inr ⟨h1, h2, h3, fun e he hd hr => h4 e hd ⟨he, by omega, hr⟩⟩⟩
  · exact ⟨0, Or.inl ⟨rfl, fun e h1 h2 h3 => h ⟨e, h1, h2, h3⟩⟩⟩
noncomputable def qd_D (S : Nat → Int32) (q m : Nat) : Nat := Classical.choose (qd_exD S q m)
theorem qd_Ds (S : Nat → Int32) (q m : Nat) : qd_isD S q m (qd_D S q m) := Classical.choose_spec (qd_exD S q m)
theorem qd_Du {S : Nat → Int32} {q m d e : Nat} (hd : qd_isD S q m d) (he : qd_isD S q m e) : d = e := by
  rcases hd with ⟨h1, h2⟩ | ⟨h1, h2, h3, h4⟩
  · rcases he with ⟨g1, g2⟩ | ⟨g1, g2, g3, g4⟩
    · omega
    · exact absurd g3 (h2 e g1 g2)
  · rcases he with ⟨g1, g2⟩ | ⟨g1, g2, g3, g4⟩
    · exact absurd h3 (g2 d h1 h2)
    · by_cases a : d < e
      · exact absurd h3 (g4 d h1 a)
      · by_cases b : e < d
        · exact absurd g3 (h4 e g1 b)
        · omega
theorem qd_De {S : Nat → Int32} {q m d : Nat} (h : qd_isD S q m d) : qd_D S q m = d := qd_Du (qd_Ds S q m) h
theorem qd_Dle (S : Nat → Int32) (q m : Nat) : qd_D S q m ≤ q := by
  rcases qd_Ds S q m with ⟨h1, _⟩ | ⟨_, h2, _⟩
  · omega
  · exact h2
def qd_feas (S : Nat → Int32) (n K p l m : Nat) : Prop := K ≤ m ∧ p + l + m ≤ n ∧ 0 < qd_D S (p + l) m
def qd_cost (F E K : Nat) (pc : Nat → Nat) (p l m : Nat) : Nat := qd_hd F E l + (2 + qd_ext F E (m - K)) + pc (p + l + m)
def qd_bef (a b l m : Nat) : Prop := a < l ∨ (a = l ∧ m < b)
def qd_fin (n T p : Nat) : Prop := p = 0 ∨ T ≤ n - p
def qd_best (S : Nat → Int32) (n F E K : Nat) (pc : Nat → Nat) (p l0 m0 c l m d : Nat) : Prop :=
  c ≤ 1000000 ∧ (∀ a b, qd_bef a b l0 m0 → qd_feas S n K p a b → c ≤ qd_cost F E K pc p a b) ∧
  (c = 1000000 ∨ (qd_feas S n K p l m ∧ c = qd_cost F E K pc p l m ∧ c < 1000000 ∧ d = qd_D S (p + l) m ∧
    ∀ a b, qd_bef a b l m → qd_feas S n K p a b → c < qd_cost F E K pc p a b))
theorem qd_best_0 {S : Nat → Int32} {n F E K : Nat} {pc : Nat → Nat} {p m0 l m d : Nat} (h : n ≤ p + m0) :
    qd_best S n F E K pc p 0 m0 1000000 l m d := by
  refine ⟨Nat.le_refl _, fun a b hb hf => ?_, Or.inl rfl⟩
  obtain ⟨h1, h2, h3⟩ := hf
  rcases hb with hb | ⟨h4, h5⟩
  · omega
  · omega
theorem qd_best_take {S : Nat → Int32} {n F E K : Nat} {pc : Nat → Nat} {p l0 m0 c l m d : Nat}
    (h : qd_best S n F E K pc p l0 m0 c l m d) (hK : K ≤ m0) (hn : p + l0 + m0 ≤ n)
    (hc : qd_cost F E K pc p l0 m0 < c) (hD : 0 < qd_D S (p + l0) m0) (h0 : 0 < m0) :
    qd_best S n F E K pc p l0 (m0 - 1) (qd_cost F E K pc p l0 m0) l0 m0 (qd_D S (p + l0) m0) := by
  obtain ⟨h1, h2, h3⟩ := h
  refine ⟨by omega, fun a b hb hf => ?_, Or.inr ⟨⟨hK, hn, hD⟩, rfl, by omega, rfl, fun a b hb hf => ?_⟩⟩
  · by_cases hh : qd_bef a b l0 m0
    · have := h2 a b hh hf
      omega
    · have e : a = l0 ∧ b = m0 := by
        unfold qd_bef at hb hh
        omega
      rw [e.1, e.2]
      exact Nat.le_refl _
  · have := h2 a b hb hf
    omega
theorem qd_best_skip {S : Nat → Int32} {n F E K : Nat} {pc : Nat → Nat} {p l0 m0 c l m d : Nat}
    (h : qd_best S n F E K pc p l0 m0 c l m d) (hs : ¬ (qd_cost F E K pc p l0 m0 < c ∧ 0 < qd_D S (p + l0) m0)) (h0 : 0 < m0) :
    qd_best S n F E K pc p l0 (m0 - 1) c l m d := by
  obtain ⟨h1, h2, h3⟩ := h
  refine ⟨h1, fun a b hb hf => ?_, h3⟩
  by_cases hh : qd_bef a b l0 m0
  · exact h2 a b hh hf
  · have e : a = l0 ∧ b = m0 := by
      unfold qd_bef at hb hh
      omega
    obtain ⟨rfl, rfl⟩ := e
    have := hf.2.2
    omega
theorem qd_best_next {S : Nat → Int32} {n F E K : Nat} {pc : Nat → Nat} {p l0 m0 m1 c l m d : Nat}
    (h : qd_best S n F E K pc p l0 m0 c l m d) (hK : m0 < K) (hn : n ≤ p + (l0 + 1) + m1) :
    qd_best S n F E K pc p (l0 + 1) m1 c l m d := by
  obtain ⟨h1, h2, h3⟩ := h
  refine ⟨h1, fun a b hb hf => h2 a b ?_ hf, h3⟩
  obtain ⟨g1, g2, g3⟩ := hf
  unfold qd_bef at hb ⊢
  omega
theorem qd_best_all {S : Nat → Int32} {n F E K : Nat} {pc : Nat → Nat} {p l0 m0 c l m d : Nat}
    (h : qd_best S n F E K pc p l0 m0 c l m d) (hn : n < p + l0 + K) :
    ∀ a b, qd_feas S n K p a b → c ≤ qd_cost F E K pc p a b := by
  intro a b hf
  refine h.2.1 a b ?_ hf
  obtain ⟨g1, g2, g3⟩ := hf
  unfold qd_bef
  omega
def qd_PL (S : Nat → Int32) (n F E K T : Nat) (pc pl pm pd : Nat → Nat) (p : Nat) : Prop :=
  pc p ≤ 1000000 ∧ 1 ≤ pc p ∧
  (∀ a b, qd_feas S n K p a b → pc p ≤ qd_cost F E K pc p a b) ∧ (qd_fin n T p → pc p ≤ qd_hd F E (n - p)) ∧
  (pc p = 1000000 ∨
   (pm p = 0 ∧ pl p = n - p ∧ qd_fin n T p ∧ pc p = qd_hd F E (n - p) ∧ ∀ a b, qd_feas S n K p a b → pc p < qd_cost F E K pc p a b) ∨
   (qd_feas S n K p (pl p) (pm p) ∧ pc p < 1000000 ∧ pc p = qd_cost F E K pc p (pl p) (pm p) ∧ pd p = qd_D S (p + pl p) (pm p) ∧
     ∀ a b, qd_bef a b (pl p) (pm p) → qd_feas S n K p a b → pc p < qd_cost F E K pc p a b))
/-- the four tables with new entries at p -/
def qd_at (f : Nat → Nat) (p v : Nat) : Nat → Nat := fun j => if j = p then v else f j
theorem qd_at_s {f : Nat → Nat} {p v : Nat} : qd_at f p v p = v := if_pos rfl
theorem qd_at_n {f : Nat → Nat} {p v j : Nat} (h : j ≠ p) : qd_at f p v j = f j := if_neg h
theorem qd_cost_at {F E K : Nat} {pc : Nat → Nat} {p p' v l m : Nat} (h : p < p' + l + m) : qd_cost F E K (qd_at pc p v) p' l m = qd_cost F E K pc p' l m := by
  unfold qd_cost
  rw [qd_at_n (by omega)]
theorem qd_hd_pos (F E l : Nat) : 1 ≤ qd_hd F E l := by unfold qd_hd; omega
/-- the choice of the final sequence -/
theorem qd_PL_fin {S : Nat → Int32} {n F E K T : Nat} {pc pl pm pd : Nat → Nat} {p l0 m0 c l m d : Nat}
    (h : qd_best S n F E K pc p l0 m0 c l m d) (hn : n < p + l0 + K) (hK : 1 ≤ K) (hf : qd_fin n T p) (hc : qd_hd F E (n - p) < c) :
    qd_PL S n F E K T (qd_at pc p (qd_hd F E (n - p))) (qd_at pl p (n - p)) (qd_at pm p 0) (qd_at pd p 0) p := by
  have ha := qd_best_all h hn
  have h1 := h.1
  have hp := qd_hd_pos F E (n - p)
  have e : ∀ a b, qd_feas S n K p a b → qd_cost F E K (qd_at pc p (qd_hd F E (n - p))) p a b = qd_cost F E K pc p a b := by
    intro a b ⟨g1, g2, g3⟩
    exact qd_cost_at (by omega)
  unfold qd_PL
  rw [qd_at_s, qd_at_s, qd_at_s, qd_at_s]
  refine ⟨by omega, hp, fun a b g => ?_, fun _ => Nat.le_refl _, Or.inr (Or.inl ⟨rfl, rfl, hf, rfl, fun a b g => ?_⟩)⟩
  · rw [e a b g]; have := ha a b g; omega
  · rw [e a b g]; have := ha a b g; omega
/-- what was best stays -/
theorem qd_PL_best {S : Nat → Int32} {n F E K T : Nat} {pc pl pm pd : Nat → Nat} {p l0 m0 c l m d : Nat}
    (h : qd_best S n F E K pc p l0 m0 c l m d) (hn : n < p + l0 + K) (hK : 1 ≤ K) (hf : qd_fin n T p → c ≤ qd_hd F E (n - p)) :
    qd_PL S n F E K T (qd_at pc p c) (qd_at pl p l) (qd_at pm p m) (qd_at pd p d) p := by
  have ha := qd_best_all h hn
  have e : ∀ a b, qd_feas S n K p a b → qd_cost F E K (qd_at pc p c) p a b = qd_cost F E K pc p a b := by
    intro a b ⟨g1, g2, g3⟩
    exact qd_cost_at (by omega)
  obtain ⟨h1, h2, h3⟩ := h
  unfold qd_PL
  rw [qd_at_s, qd_at_s, qd_at_s, qd_at_s]
  refine ⟨h1, ?_, fun a b g => ?_, hf, ?_⟩
  · rcases h3 with h3 | ⟨g, h3, _⟩
    · omega
    · rw [h3]; unfold qd_cost qd_hd; omega
  · rw [e a b g]; exact ha a b g
  · rcases h3 with h3 | ⟨g, h3, h4, h5, h6⟩
    · exact Or.inl h3
    · refine Or.inr (Or.inr ⟨g, h4, ?_, h5, fun a b hb g' => ?_⟩)
      · rw [e l m g]; exact h3
      · rw [e a b g']; exact h6 a b hb g'
theorem qd_PL_at {S : Nat → Int32} {n F E K T : Nat} {pc pl pm pd : Nat → Nat} {p p' c l m d : Nat} (hp : p < p')
    (h : qd_PL S n F E K T pc pl pm pd p') : qd_PL S n F E K T (qd_at pc p c) (qd_at pl p l) (qd_at pm p m) (qd_at pd p d) p' := by
  have e : ∀ a b, qd_cost F E K (qd_at pc p c) p' a b = qd_cost F E K pc p' a b := fun a b => qd_cost_at (by omega)
  unfold qd_PL at h ⊢
  rw [qd_at_n (by omega), qd_at_n (by omega), qd_at_n (by omega), qd_at_n (by omega)]
  simp only [e]
  exact h
/-! the reference's table -/
def qd_yok (S : Nat → Int32) (n F E K : Nat) (en : Nat → Nat → Prop) (p c l m : Nat) : Prop :=
  qd_feas S n K p l m ∧ ∃ w, 0 < w ∧ qd_hd F E l + (2 + qd_ext F E (m - K)) + w = c ∧ en (p + l + m) w
def qd_yfin (n F E T p c : Nat) : Prop := qd_fin n T p ∧ qd_hd F E (n - p) = c
def qd_Loc (S : Nat → Int32) (n F E K T : Nat) (en : Nat → Nat → Prop) (c0 : Nat) : Prop :=
  ∀ p c, p ≤ n → 1 ≤ c → c ≤ c0 → (en p c ↔ (qd_yfin n F E T p c ∨ ∃ l m, qd_yok S n F E K en p c l m))
theorem qd_A {S : Nat → Int32} {n F E K T c0 : Nat} {pc pl pm pd : Nat → Nat} {en : Nat → Nat → Prop}
    (hP : ∀ p, p ≤ n → qd_PL S n F E K T pc pl pm pd p) (hL : qd_Loc S n F E K T en c0) :
    ∀ c p, p ≤ n → 1 ≤ c → c ≤ c0 → en p c → pc p ≤ c := by
  intro c
  induction c using Nat.strongRecOn with
  | ind c ih =>
    intro p hp h1 h2 he
    obtain ⟨_, _, q3, q4, _⟩ := hP p hp
    rcases (hL p c hp h1 h2).mp he with ⟨g1, g2⟩ | ⟨l, m, g, w, w0, w1, w2⟩
    · have := q4 g1
      omega
    · have a := q3 l m g
      have b := ih w (by omega) (p + l + m) g.2.1 w0 (by omega) w2
      unfold qd_cost at a
      omega
theorem qd_B {S : Nat → Int32} {n F E K T c0 : Nat} {pc pl pm pd : Nat → Nat} {en : Nat → Nat → Prop}
    (hP : ∀ p, p ≤ n → qd_PL S n F E K T pc pl pm pd p) (hL : qd_Loc S n F E K T en c0) (h0 : c0 < 1000000) :
    ∀ c p, p ≤ n → pc p = c → c ≤ c0 → en p c := by
  intro c
  induction c using Nat.strongRecOn with
  | ind c ih =>
    intro p hp h1 h2
    obtain ⟨_, q2, _, _, q5⟩ := hP p hp
    refine (hL p c hp (by omega) h2).mpr ?_
    rcases q5 with q5 | ⟨_, _, g3, g4, _⟩ | ⟨g, _, g3, _, _⟩
    · omega
    · exact Or.inl ⟨g3, by omega⟩
    · refine Or.inr ⟨pl p, pm p, g, pc (p + pl p + pm p), ?_, ?_, ?_⟩
      · exact (hP _ g.2.1).2.1
      · unfold qd_cost at g3; omega
      · have hh := qd_hd_pos F E (pl p)
        unfold qd_cost at g3
        exact ih _ (by omega) (p + pl p + pm p) g.2.1 rfl (by omega)
theorem qd_yok_iff {S : Nat → Int32} {n F E K T c0 : Nat} {pc pl pm pd : Nat → Nat} {en : Nat → Nat → Prop}
    (hP : ∀ p, p ≤ n → qd_PL S n F E K T pc pl pm pd p) (hL : qd_Loc S n F E K T en c0) (h0 : c0 < 1000000)
    {p : Nat} (hp : p ≤ n) (hc : pc p ≤ c0) (a b : Nat) :
    qd_yok S n F E K en p (pc p) a b ↔ (qd_feas S n K p a b ∧ qd_cost F E K pc p a b = pc p) := by
  constructor
  · intro ⟨g, w, w0, w1, w2⟩
    refine ⟨g, ?_⟩
    have h1 := qd_A hP hL w (p + a + b) g.2.1 w0 (by omega) w2
    have h2 := (hP p hp).2.2.1 a b g
    unfold qd_cost at h2 ⊢
    omega
  · intro ⟨g, e⟩
    have hh := qd_hd_pos F E a
    unfold qd_cost at e
    exact ⟨g, pc (p + a + b), (hP _ g.2.1).2.1, by omega, qd_B hP hL h0 _ (p + a + b) g.2.1 rfl (by omega)⟩
/-- the first among the cheapest is the first that fits -/
theorem qd_pick {S : Nat → Int32} {n F E K T c0 : Nat} {pc pl pm pd : Nat → Nat} {en : Nat → Nat → Prop}
    (hP : ∀ p, p ≤ n → qd_PL S n F E K T pc pl pm pd p) (hL : qd_Loc S n F E K T en c0) (h0 : c0 < 1000000)
    {p : Nat} (hp : p ≤ n) (hc : pc p ≤ c0) {l m : Nat} (h : qd_yok S n F E K en p (pc p) l m)
    (hf : ∀ a b, qd_bef a b l m → ¬ qd_yok S n F E K en p (pc p) a b) :
    pl p = l ∧ pm p = m ∧ pd p = qd_D S (p + l) m := by
  have iff := qd_yok_iff hP hL h0 hp hc
  obtain ⟨g, e⟩ := (iff l m).mp h
  rcases (hP p hp).2.2.2.2 with q5 | ⟨_, _, _, _, q5⟩ | ⟨g1, _, g3, g4, g5⟩
  · omega
  · have := q5 l m g
    omega
  · have n1 : ¬ qd_bef l m (pl p) (pm p) := fun z => by
      have := g5 l m z g
      omega
    have n2 : ¬ qd_bef (pl p) (pm p) l m := fun z => hf _ _ z ((iff _ _).mpr ⟨g1, g3.symm⟩)
    unfold qd_bef at n1 n2
    have e1 : pl p = l := by omega
    have e2 : pm p = m := by omega
    exact ⟨e1, e2, by rw [g4, e1, e2]⟩
theorem qd_pickF {S : Nat → Int32} {n F E K T c0 : Nat} {pc pl pm pd : Nat → Nat} {en : Nat → Nat → Prop}
    (hP : ∀ p, p ≤ n → qd_PL S n F E K T pc pl pm pd p) (hL : qd_Loc S n F E K T en c0) (h0 : c0 < 1000000)
    {p : Nat} (hp : p ≤ n) (hc : pc p ≤ c0)
    (hf : ∀ a b, ¬ qd_yok S n F E K en p (pc p) a b) : pl p = n - p ∧ pm p = 0 ∧ pc p = qd_hd F E (n - p) := by
  have iff := qd_yok_iff hP hL h0 hp hc
  rcases (hP p hp).2.2.2.2 with q5 | ⟨g1, g2, _, g4, _⟩ | ⟨g1, _, g3, _, _⟩
  · omega
  · exact ⟨g2, g1, g4⟩
  · exact absurd ((iff _ _).mpr ⟨g1, g3.symm⟩) (hf _ _)
/-- the shortest is the planned cost at the front -/
theorem qd_short {S : Nat → Int32} {n F E K T c0 : Nat} {pc pl pm pd : Nat → Nat} {en : Nat → Nat → Prop}
    (hP : ∀ p, p ≤ n → qd_PL S n F E K T pc pl pm pd p) (hL : qd_Loc S n F E K T en c0) (h0 : c0 < 1000000) (h1 : 1 ≤ c0)
    (he : en 0 c0) (hm : ∀ c, 1 ≤ c → c < c0 → ¬ en 0 c) : pc 0 = c0 := by
  have a := qd_A hP hL c0 0 (Nat.zero_le _) h1 (Nat.le_refl _) he
  have b := qd_B hP hL h0 (pc 0) 0 (Nat.zero_le _) rfl a
  have q := (hP 0 (Nat.zero_le _)).2.1
  by_cases c : pc 0 < c0
  · exact absurd b (hm _ q c)
  · omega
/-! bounds -/
theorem qd_ext_le {F E x : Nat} (hE : 2 ≤ E) : qd_ext F E x ≤ (x - F) / 2 + 1 := by
  unfold qd_ext
  have := Nat.div_le_div_left hE (by decide : 0 < 2) (a := x - F)
  split
  · omega
  · omega
theorem qd_ext16 {F E x : Nat} (hE : 2 ≤ E) (hF : 2 ≤ F) (hx : x ≤ 32) : qd_ext F E x ≤ 16 := by
  have := qd_ext_le (F := F) (x := x) hE
  omega
theorem qd_hd49 {F E l : Nat} (hE : 2 ≤ E) (hF : 2 ≤ F) (hl : l ≤ 32) : qd_hd F E l ≤ 49 := by
  have := qd_ext16 (F := F) (x := l) hE hF hl
  unfold qd_hd
  omega
theorem qd_ext_lt {F E x : Nat} (h : x < F) : qd_ext F E x = 0 := if_pos h
theorem qd_ext_ge {F E x : Nat} (h : F ≤ x) : qd_ext F E x = (x - F) / E + 1 := if_neg (by omega)
theorem qd_ext_i {F E x i : Nat} (hE : 0 < E) (h : F ≤ x) : i * E ≤ x - F ↔ i < qd_ext F E x := by
  rw [qd_ext_ge h, Nat.lt_add_one_iff, Nat.le_div_iff_mul_le hE]
/-! cells written in a row -/
def qd_fill (a : Nat → Int32) (b : Nat) (g : Nat → Int32) (k : Nat) : Nat → Int32 := fun j => if b ≤ j ∧ j < b + k then g (j - b) else a j
theorem qd_fill_0 (a : Nat → Int32) (b : Nat) (g : Nat → Int32) : qd_fill a b g 0 = a := by
  funext j
  exact if_neg (by omega)
theorem qd_fill_s (a : Nat → Int32) (b : Nat) (g : Nat → Int32) (k : Nat) : upd (qd_fill a b g k) (b + k) (g k) = qd_fill a b g (k + 1) := by
  funext j
  unfold upd qd_fill
  by_cases h : j = b + k
  · rw [if_pos h, if_pos (by omega), h, Nat.add_sub_cancel_left]
  · rw [if_neg h]
    by_cases h2 : b ≤ j ∧ j < b + k
    · rw [if_pos h2, if_pos (by omega)]
    · rw [if_neg h2, if_neg (by omega)]
theorem qd_fill_in {a : Nat → Int32} {b : Nat} {g : Nat → Int32} {k j : Nat} (h : j < k) : qd_fill a b g k (b + j) = g j := by
  unfold qd_fill
  rw [if_pos (by omega), Nat.add_sub_cancel_left]
theorem qd_fill_out {a : Nat → Int32} {b : Nat} {g : Nat → Int32} {k j : Nat} (h : j < b ∨ b + k ≤ j) : qd_fill a b g k j = a j := if_neg (by omega)
def qd_xg (F E x : Nat) (i : Nat) : Int32 := if i < (x - F) / E then nI E else nI ((x - F) % E)
/-- the bytes -/
def qd_by (a : Nat → Int32) : Prop := ∀ j, ∃ c, c < 256 ∧ a j = nI c
theorem qd_by_0 : qd_by (fun _ => 0) := fun _ => ⟨0, by decide, rfl⟩
theorem qd_by_u {a : Nat → Int32} {k c : Nat} (h : qd_by a) (hc : c < 256) : qd_by (upd a k (nI c)) := by
  intro j
  by_cases e : j = k
  · exact ⟨c, hc, by rw [e, pk_us]⟩
  · rw [pk_un e]; exact h j
theorem qd_by_u' {a : Nat → Int32} {k : Nat} {x : Int32} (h : qd_by a) (hc : ∃ c, c < 256 ∧ x = nI c) : qd_by (upd a k x) := by
  obtain ⟨c, hc, rfl⟩ := hc
  exact qd_by_u h hc
theorem qd_by_fill {a g : Nat → Int32} {b k : Nat} (h : qd_by a) (hg : ∀ i, i < k → ∃ c, c < 256 ∧ g i = nI c) : qd_by (qd_fill a b g k) := by
  intro j
  by_cases e : b ≤ j ∧ j < b + k
  · unfold qd_fill
    rw [if_pos e]
    exact hg _ (by omega)
  · unfold qd_fill
    rw [if_neg e]
    exact h j
theorem qd_255 (v : Int32) : ∃ c, c < 256 ∧ v &&& 255 = nI c := pk_andE v (m := 255) 8 (by decide)
theorem qd_and {c : Nat} (h : c < 256) : nI c &&& 255 = nI c := by
  rw [pk_andN (by omega) (m := 255) 8 (by decide)]
  exact congrArg nI (Nat.mod_eq_of_lt h)
theorem qd_and' {x : Int32} (h : ∃ c, c < 256 ∧ x = nI c) : x &&& 255 = x := by
  obtain ⟨c, hc, rfl⟩ := h
  exact qd_and hc
/-! the reference's search, option by option -/
def qd_none (S : Nat → Int32) (n F E K : Nat) (en : Nat → Nat → Prop) (p c l0 m0 : Nat) : Prop :=
  ∀ a b, qd_bef a b l0 m0 → ¬ qd_yok S n F E K en p c a b
theorem qd_none_0 {S : Nat → Int32} {n F E K : Nat} {en : Nat → Nat → Prop} {p c m0 : Nat} (h : n ≤ p + m0) : qd_none S n F E K en p c 0 m0 := by
  intro a b hb hy
  obtain ⟨⟨h1, h2, h3⟩, _⟩ := hy
  unfold qd_bef at hb
  omega
theorem qd_none_skip {S : Nat → Int32} {n F E K : Nat} {en : Nat → Nat → Prop} {p c l0 m0 : Nat} (h : qd_none S n F E K en p c l0 m0)
    (hs : ¬ qd_yok S n F E K en p c l0 m0) (h0 : 0 < m0) : qd_none S n F E K en p c l0 (m0 - 1) := by
  intro a b hb
  by_cases hh : qd_bef a b l0 m0
  · exact h a b hh
  · have e : a = l0 ∧ b = m0 := by
      unfold qd_bef at hb hh
      omega
    rw [e.1, e.2]
    exact hs
theorem qd_none_next {S : Nat → Int32} {n F E K : Nat} {en : Nat → Nat → Prop} {p c l0 m0 m1 : Nat} (h : qd_none S n F E K en p c l0 m0)
    (hK : m0 < K) (hn : n ≤ p + (l0 + 1) + m1) : qd_none S n F E K en p c (l0 + 1) m1 := by
  intro a b hb hy
  refine h a b ?_ hy
  obtain ⟨⟨h1, h2, h3⟩, _⟩ := hy
  unfold qd_bef at hb ⊢
  omega
theorem qd_none_all {S : Nat → Int32} {n F E K : Nat} {en : Nat → Nat → Prop} {p c l0 m0 : Nat} (h : qd_none S n F E K en p c l0 m0)
    (hn : n < p + l0 + K) : ∀ a b, ¬ qd_yok S n F E K en p c a b := by
  intro a b hy
  refine h a b ?_ hy
  obtain ⟨⟨h1, h2, h3⟩, _⟩ := hy
  unfold qd_bef
  omega
def qd_en (EN : Nat → Int32) (p c : Nat) : Prop := ¬ EN (p * 64 + c) = 0
def qd_rhs (S : Nat → Int32) (n F E K T : Nat) (en : Nat → Nat → Prop) (p c : Nat) : Prop := qd_yfin n F E T p c ∨ ∃ l m, qd_yok S n F E K en p c l m
theorem qd_yok_congr {S : Nat → Int32} {n F E K : Nat} {en en' : Nat → Nat → Prop} {p c l m : Nat} (h : ∀ q w, q ≤ n → w < c → (en q w ↔ en' q w)) :
    qd_yok S n F E K en p c l m ↔ qd_yok S n F E K en' p c l m := by
  constructor
  · intro ⟨g, w, w0, w1, w2⟩
    have hh := qd_hd_pos F E l
    exact ⟨g, w, w0, w1, (h _ _ g.2.1 (by omega)).mp w2⟩
  · intro ⟨g, w, w0, w1, w2⟩
    have hh := qd_hd_pos F E l
    exact ⟨g, w, w0, w1, (h _ _ g.2.1 (by omega)).mpr w2⟩
theorem qd_rhs_congr {S : Nat → Int32} {n F E K T : Nat} {en en' : Nat → Nat → Prop} {p c : Nat} (h : ∀ q w, q ≤ n → w < c → (en q w ↔ en' q w)) :
    qd_rhs S n F E K T en p c ↔ qd_rhs S n F E K T en' p c := by
  unfold qd_rhs
  simp only [qd_yok_congr h]
/-- columns below c hold; column c is filled up to p -/
def qd_col (S : Nat → Int32) (n F E K T : Nat) (EN : Nat → Int32) (c p : Nat) : Prop :=
  qd_Loc S n F E K T (qd_en EN) (c - 1) ∧ ∀ q, q < p → (qd_en EN q c ↔ qd_rhs S n F E K T (qd_en EN) q c)
theorem qd_col_s {S : Nat → Int32} {n F E K T : Nat} {EN : Nat → Int32} {c p : Nat} {v : Int32} (hn : n ≤ 32) (hc : 1 ≤ c) (hc2 : c < 64) (hp : p ≤ n)
    (h : qd_col S n F E K T EN c p) (hv : ¬ v = 0 ↔ qd_rhs S n F E K T (qd_en EN) p c) : qd_col S n F E K T (upd EN (p * 64 + c) v) c (p + 1) := by
  have ag : ∀ q w, w < c → (qd_en (upd EN (p * 64 + c) v) q w ↔ qd_en EN q w) := by
    intro q w hw
    unfold qd_en
    rw [pk_un (by omega)]
  have cg : ∀ q d, d ≤ c → (qd_rhs S n F E K T (qd_en (upd EN (p * 64 + c) v)) q d ↔ qd_rhs S n F E K T (qd_en EN) q d) :=
    fun q d hd => qd_rhs_congr (fun q' w _ hw => ag q' w (by omega))
  obtain ⟨h1, h2⟩ := h
  refine ⟨fun q d hq hd hdc => ?_, fun q hq => ?_⟩
  · have a := ag q d (by omega)
    have b := cg q d (by omega)
    unfold qd_rhs at b
    rw [a, b]
    exact h1 q d hq hd hdc
  · rw [cg q c (Nat.le_refl _)]
    by_cases e : q = p
    · rw [e, ← hv]
      unfold qd_en
      rw [pk_us]
    · rw [← h2 q (by omega)]
      unfold qd_en
      rw [pk_un (by omega)]
theorem qd_col_next {S : Nat → Int32} {n F E K T : Nat} {EN : Nat → Int32} {c : Nat} (hc : 1 ≤ c) (h : qd_col S n F E K T EN c (n + 1)) : qd_Loc S n F E K T (qd_en EN) c := by
  intro p d hp hd hdc
  by_cases e : d = c
  · rw [e]
    exact h.2 p (by omega)
  · exact h.1 p d hp hd (by omega)
theorem qd_col_0 {S : Nat → Int32} {n F E K T : Nat} {EN : Nat → Int32} {c : Nat} (h : qd_Loc S n F E K T (qd_en EN) (c - 1)) : qd_col S n F E K T EN c 0 :=
  ⟨h, fun q hq => absurd hq (by omega)⟩
theorem qd_Loc_0 {S : Nat → Int32} {n F E K T : Nat} {en : Nat → Nat → Prop} : qd_Loc S n F E K T en 0 := fun p c _ h1 h2 => absurd h2 (by omega)
theorem qd_Loc_end {S : Nat → Int32} {n F E K T c : Nat} {en : Nat → Nat → Prop} (h : qd_Loc S n F E K T en c) (hc : c = qd_hd F E n) (h1 : 1 ≤ c) : en 0 c :=
  (h 0 c (Nat.zero_le _) h1 (Nat.le_refl _)).mpr (Or.inl ⟨Or.inl rfl, by rw [Nat.sub_zero]; exact hc.symm⟩)
/-! every int is some nI; the same store twice -/
theorem qd_of32 (x : Int32) : ∃ n, x = nI n := by
  refine ⟨x.toBitVec.toNat, ?_⟩
  apply Int32.toBitVec_inj.mp
  apply BitVec.eq_of_toNat_eq
  show _ = (BitVec.ofNat 32 _).toNat
  rw [BitVec.toNat_ofNat]
  exact (Nat.mod_eq_of_lt x.toBitVec.isLt).symm
theorem qd_uu (f : Nat → Int32) (k : Nat) (x y : Int32) : upd (upd f k x) k y = upd f k y := by
  funext j
  unfold upd
  split <;> rfl
theorem qd_ue (f : Nat → Int32) (k : Nat) : upd f k (f k) = f := by
  funext j
  unfold upd
  split
  · rename_i h; rw [h]
  · rfl
end
section
/-! the pure reader and the pure writer -/
def qr_c (B : Nat → Int32) (j : Nat) : Nat := (B j).toNatClampNeg
theorem qr_ce {B : Nat → Int32} (hB : qd_by B) (j : Nat) : B j = nI (qr_c B j) ∧ qr_c B j < 256 := by
  obtain ⟨c, hc, e⟩ := hB j
  have : qr_c B j = c := by unfold qr_c; rw [e]; exact nI_clamp (by omega)
  rw [this]
  exact ⟨e, hc⟩
def qr_num (B : Nat → Int32) (E : Nat) : Nat → Nat → Nat → Nat × Nat × Nat
  | 0, a, x => (3, x, a)
  | g + 1, a, x => if E < qr_c B a then (5, x, a + 1) else if qr_c B a < E then (0, x + qr_c B a, a + 1) else qr_num B E g (a + 1) (x + qr_c B a)
def qr_number (B : Nat → Int32) (bl F E a x : Nat) : Nat × Nat × Nat := if x < F then (0, x, a) else qr_num B E (bl - a) a x
def qr_copy (res : Nat → Int32) (len d : Nat) : Nat → (Nat → Int32)
  | 0 => res
  | i + 1 => upd (qr_copy res len d i) (len + i) (qr_copy res len d i (len + i - d))
abbrev qr_R : Type := Nat × Nat × (Nat → Int32)
def qr_m2 (K : Nat) (k : Nat → Nat → (Nat → Int32) → qr_R) (len d : Nat) (res : Nat → Int32) (nx : Nat × Nat × Nat) : qr_R :=
  if nx.1 ≠ 0 then (nx.1, len, res) else if 32 - len < K + nx.2.1 then (6, len, res) else k nx.2.2 (len + (K + nx.2.1)) (qr_copy res len d (K + nx.2.1))
def qr_m1 (B : Nat → Int32) (bl F E K : Nat) (k : Nat → Nat → (Nat → Int32) → qr_R) (a len mf : Nat) (res : Nat → Int32) : qr_R :=
  if bl - a < 2 then (3, len, res) else if qr_c B a + 256 * qr_c B (a + 1) = 0 ∨ len < qr_c B a + 256 * qr_c B (a + 1) then (8, len, res)
  else qr_m2 K k len (qr_c B a + 256 * qr_c B (a + 1)) res (qr_number B bl F E (a + 2) mf)
def qr_l1 (B : Nat → Int32) (bl F E K T : Nat) (k : Nat → Nat → (Nat → Int32) → qr_R) (s len mf : Nat) (res : Nat → Int32) (nl : Nat × Nat × Nat) : qr_R :=
  if nl.1 ≠ 0 then (nl.1, len, res) else if bl - nl.2.2 < nl.2.1 then (3, len, res) else if 32 - len < nl.2.1 then (6, len, res)
  else if bl ≤ nl.2.2 + nl.2.1 then
    (if mf ≠ 0 ∨ (0 < s ∧ nl.2.1 < T) then (7, len + nl.2.1, qd_fill res len (fun i => B (nl.2.2 + i)) nl.2.1) else (0, len + nl.2.1, qd_fill res len (fun i => B (nl.2.2 + i)) nl.2.1))
  else qr_m1 B bl F E K k (nl.2.2 + nl.2.1) (len + nl.2.1) mf (qd_fill res len (fun i => B (nl.2.2 + i)) nl.2.1)
def qr_read (B : Nat → Int32) (bl F E K T : Nat) : Nat → Nat → Nat → Nat → (Nat → Int32) → qr_R
  | 0, _, _, len, res => (3, len, res)
  | g + 1, s, a, len, res => if bl ≤ a then (3, len, res) else if F < qr_c B a / 16 ∨ F < qr_c B a % 16 then (4, len, res)
    else qr_l1 B bl F E K T (fun a' len' res' => qr_read B bl F E K T g (s + 1) a' len' res') s len (qr_c B a % 16) res (qr_number B bl F E (a + 1) (qr_c B a / 16))
/-- the answer as the program gives it -/
def qr_ans (code v : Nat) : Int32 := if code = 0 then nI v else -nI code
theorem qr_ans0 (v : Nat) : qr_ans 0 v = nI v := if_pos rfl
theorem qr_ansn {c v : Nat} (h : c ≠ 0) : qr_ans c v = -nI c := if_neg h
theorem qr_neg {c : Nat} (h : c ≠ 0) (h8 : c ≤ 8) : -nI c < 0 := by
  have : ∀ c, c ≤ 8 → c ≠ 0 → -nI c < 0 := by decide
  exact this c h8 h
theorem qr_ans_neg {c v : Nat} (h : c ≠ 0) (h8 : c ≤ 8) : qr_ans c v < 0 := by
  rw [qr_ansn h]
  exact qr_neg h h8
theorem qr_num_b {B : Nat → Int32} {E : Nat} (hB : qd_by B) : ∀ g a x, ((qr_num B E g a x).1 = 0 ∨ (qr_num B E g a x).1 = 3 ∨ (qr_num B E g a x).1 = 5) ∧ a ≤ (qr_num B E g a x).2.2 ∧ (qr_num B E g a x).2.2 ≤ a + g ∧ (qr_num B E g a x).2.1 ≤ x + 256 * g := by
  intro g
  induction g with
  | zero => intro a x; exact ⟨Or.inr (Or.inl rfl), Nat.le_refl _, Nat.le_refl _, Nat.le_refl _⟩
  | succ g ih =>
    intro a x
    have hc := (qr_ce hB a).2
    rw [qr_num]
    by_cases h1 : E < qr_c B a
    · rw [if_pos h1]
      exact ⟨Or.inr (Or.inr rfl), by dsimp only; omega, by dsimp only; omega, by dsimp only; omega⟩
    · rw [if_neg h1]
      by_cases h2 : qr_c B a < E
      · rw [if_pos h2]
        exact ⟨Or.inl rfl, by dsimp only; omega, by dsimp only; omega, by dsimp only; omega⟩
      · rw [if_neg h2]
        obtain ⟨q1, q2, q3, q4⟩ := ih (a + 1) (x + qr_c B a)
        exact ⟨q1, by omega, by omega, by omega⟩
theorem qr_number_b {B : Nat → Int32} {bl F E a x : Nat} (hB : qd_by B) (ha : a ≤ bl) (hb : bl ≤ 64) : ((qr_number B bl F E a x).1 = 0 ∨ (qr_number B bl F E a x).1 = 3 ∨ (qr_number B bl F E a x).1 = 5) ∧ a ≤ (qr_number B bl F E a x).2.2 ∧ (qr_number B bl F E a x).2.2 ≤ bl ∧ (qr_number B bl F E a x).2.1 ≤ x + 16384 := by
  unfold qr_number
  by_cases h : x < F
  · rw [if_pos h]
    exact ⟨Or.inl rfl, Nat.le_refl _, ha, by dsimp only; omega⟩
  · rw [if_neg h]
    obtain ⟨q1, q2, q3, q4⟩ := qr_num_b (E := E) hB (bl - a) a x
    exact ⟨q1, q2, by omega, by omega⟩
theorem qr_by_copy {res : Nat → Int32} {len d : Nat} (h : qd_by res) : ∀ m, qd_by (qr_copy res len d m) := by
  intro m
  induction m with
  | zero => exact h
  | succ m ih => exact qd_by_u' ih (ih _)
/-! the writer -/
def qw_fld (F x : Nat) : Nat := if x < F then x else F
theorem qw_fld_le {F x : Nat} : qw_fld F x ≤ F := by unfold qw_fld; split <;> omega
def qw_tok (F K l m : Nat) : Nat := 16 * qw_fld F l + (if m = 0 then 0 else qw_fld F (m - K))
theorem qw_tok_lt {F K l m : Nat} (hF : F ≤ 15) : qw_tok F K l m < 256 := by
  unfold qw_tok
  have h1 := qw_fld_le (F := F) (x := l)
  have h2 := qw_fld_le (F := F) (x := m - K)
  split <;> omega
def qw_head (S : Nat → Int32) (F E : Nat) (blk : Nat → Int32) (b p l tok : Nat) : Nat → Int32 :=
  qd_fill (qd_fill (upd blk b (nI tok)) (b + 1) (qd_xg F E l) (qd_ext F E l)) (b + 1 + qd_ext F E l) (fun i => S (p + i)) l
def qw_mat (F E : Nat) (blk : Nat → Int32) (b d x : Nat) : Nat → Int32 :=
  qd_fill (upd (upd blk b (nI (d % 256))) (b + 1) (nI (d / 256))) (b + 2) (qd_xg F E x) (qd_ext F E x)
def qw (S : Nat → Int32) (F E K : Nat) (pl pm pd : Nat → Nat) : Nat → Nat → Nat → (Nat → Int32) → Nat × (Nat → Int32)
  | 0, _, b, blk => (b, blk)
  | g + 1, p, b, blk => if pm p = 0 then (b + qd_hd F E (pl p), qw_head S F E blk b p (pl p) (qw_tok F K (pl p) (pm p)))
    else qw S F E K pl pm pd g (p + pl p + pm p) (b + qd_hd F E (pl p) + (2 + qd_ext F E (pm p - K)))
      (qw_mat F E (qw_head S F E blk b p (pl p) (qw_tok F K (pl p) (pm p))) (b + qd_hd F E (pl p)) (pd p) (pm p - K))
theorem qd_xg_by {F E x i : Nat} (h1 : 1 ≤ E) (h2 : E ≤ 255) : ∃ c, c < 256 ∧ qd_xg F E x i = nI c := by
  unfold qd_xg
  split
  · exact ⟨E, by omega, rfl⟩
  · exact ⟨(x - F) % E, by have := Nat.mod_lt (x - F) (y := E) (by omega); omega, rfl⟩
theorem qw_head_by {S : Nat → Int32} {F E : Nat} {blk : Nat → Int32} {b p l tok : Nat} (hS : qd_by S) (hb : qd_by blk) (h1 : 1 ≤ E) (h2 : E ≤ 255) (ht : tok < 256) : qd_by (qw_head S F E blk b p l tok) :=
  qd_by_fill (qd_by_fill (qd_by_u hb ht) (fun _ _ => qd_xg_by h1 h2)) (fun i _ => hS (p + i))
theorem qw_mat_by {F E : Nat} {blk : Nat → Int32} {b d x : Nat} (hb : qd_by blk) (h1 : 1 ≤ E) (h2 : E ≤ 255) (hd : d < 65536) : qd_by (qw_mat F E blk b d x) :=
  qd_by_fill (qd_by_u (qd_by_u hb (by omega)) (by omega)) (fun _ _ => qd_xg_by h1 h2)
theorem qw_ok {S : Nat → Int32} {n F E K T : Nat} {pc pl pm pd : Nat → Nat} (hP : ∀ p, p ≤ n → qd_PL S n F E K T pc pl pm pd p) (hn : n ≤ 32) (hK : 1 ≤ K)
    (hS : qd_by S) (h1 : 1 ≤ E) (h2 : E ≤ 255) (hF : F ≤ 15) :
    ∀ g p b blk, p ≤ n → pc p < 1000000 → n - p < g → (qw S F E K pl pm pd g p b blk).1 = b + pc p ∧ (qd_by blk → qd_by (qw S F E K pl pm pd g p b blk).2) ∧ (∀ j, j < b → (qw S F E K pl pm pd g p b blk).2 j = blk j) := by
  intro g
  induction g with
  | zero => intro p b blk hp hc hg; omega
  | succ g ih =>
    intro p b blk hp hc hg
    have q5 := (hP p hp).2.2.2.2
    have kh : ∀ j, j < b → qw_head S F E blk b p (pl p) (qw_tok F K (pl p) (pm p)) j = blk j := by
      intro j hj
      unfold qw_head
      rw [qd_fill_out (by omega), qd_fill_out (by omega), pk_un (by omega)]
    rcases q5 with q5 | ⟨g1, g2, g3, g4, _⟩ | ⟨g1, g2, g3, g4, _⟩
    · omega
    · have e : qw S F E K pl pm pd (g + 1) p b blk = (b + qd_hd F E (pl p), qw_head S F E blk b p (pl p) (qw_tok F K (pl p) (pm p))) := by
        rw [qw, if_pos g1]
      rw [e]
      exact ⟨by rw [g4, g2], fun h => qw_head_by hS h h1 h2 (qw_tok_lt hF), kh⟩
    · have hm := g1.1
      have e : qw S F E K pl pm pd (g + 1) p b blk = qw S F E K pl pm pd g (p + pl p + pm p) (b + qd_hd F E (pl p) + (2 + qd_ext F E (pm p - K)))
          (qw_mat F E (qw_head S F E blk b p (pl p) (qw_tok F K (pl p) (pm p))) (b + qd_hd F E (pl p)) (pd p) (pm p - K)) := by
        rw [qw, if_neg (by omega)]
      have hh := qd_hd_pos F E (pl p)
      have hd := qd_Dle S (p + pl p) (pm p)
      have h4 := g1.2.1
      unfold qd_cost at g3
      obtain ⟨i1, i2, i3⟩ := ih (p + pl p + pm p) (b + qd_hd F E (pl p) + (2 + qd_ext F E (pm p - K)))
          (qw_mat F E (qw_head S F E blk b p (pl p) (qw_tok F K (pl p) (pm p))) (b + qd_hd F E (pl p)) (pd p) (pm p - K)) g1.2.1 (by omega) (by omega)
      rw [e]
      refine ⟨by rw [i1]; omega, fun h => i2 (qw_mat_by (qw_head_by hS h h1 h2 (qw_tok_lt hF)) h1 h2 (by omega)), fun j hj => ?_⟩
      rw [i3 j (by omega)]
      unfold qw_mat
      rw [qd_fill_out (by omega), pk_un (by omega), pk_un (by omega)]
      exact kh j hj
end
section
/-! a block that reads as SOURCE is no shorter than the plan; the planned block reads as SOURCE -/
theorem qp_ne {α : Type} {c : Nat} {x y : α} (hc : c ≠ 0) (h : (c, x) = (0, y)) : False := hc (congrArg Prod.fst h)
theorem qp_num {B : Nat → Int32} {E : Nat} (hE : 1 ≤ E) : ∀ g a x x' a', qr_num B E g a x = (0, x', a') → x ≤ x' ∧ a' = a + ((x' - x) / E + 1) := by
  intro g
  induction g with
  | zero => intro a x x' a' h; rw [qr_num] at h; exact (qp_ne (by decide) h).elim
  | succ g ih =>
    intro a x x' a' h
    rw [qr_num] at h
    by_cases h1 : E < qr_c B a
    · rw [if_pos h1] at h; exact (qp_ne (by decide) h).elim
    · rw [if_neg h1] at h
      by_cases h2 : qr_c B a < E
      · rw [if_pos h2] at h
        have e1 : x + qr_c B a = x' := congrArg (fun z => z.2.1) h
        have e2 : a + 1 = a' := congrArg (fun z => z.2.2) h
        have e3 : (x' - x) / E = 0 := Nat.div_eq_of_lt (by omega)
        omega
      · rw [if_neg h2] at h
        obtain ⟨i1, i2⟩ := ih _ _ _ _ h
        have e : x' - x = (x' - (x + qr_c B a)) + E := by omega
        have e3 : (x' - x) / E = (x' - (x + qr_c B a)) / E + 1 := by
          rw [e, Nat.add_div_right _ (by omega)]
        omega
theorem qp_number {B : Nat → Int32} {bl F E a f x' a' : Nat} (hE : 1 ≤ E) (hf : f ≤ F) (h : qr_number B bl F E a f = (0, x', a')) : a' = a + qd_ext F E x' := by
  unfold qr_number at h
  by_cases h1 : f < F
  · rw [if_pos h1] at h
    have e1 : f = x' := congrArg (fun z => z.2.1) h
    have e2 : a = a' := congrArg (fun z => z.2.2) h
    rw [qd_ext_lt (by omega)]
    omega
  · rw [if_neg h1] at h
    obtain ⟨i1, i2⟩ := qp_num hE _ _ _ _ _ h
    rw [qd_ext_ge (by omega), i2]
    have : f = F := by omega
    rw [this]
theorem qp_copy_k {res : Nat → Int32} {len d : Nat} : ∀ m i j, i ≤ m → j < len + i → qr_copy res len d m j = qr_copy res len d i j := by
  intro m
  induction m with
  | zero => intro i j hi _; have : i = 0 := by omega
            rw [this]
  | succ m ih =>
    intro i j hi hj
    by_cases e : i = m + 1
    · rw [e]
    · rw [qr_copy, pk_un (by omega)]
      exact ih i j (by omega) hj
theorem qp_copy_lo {res : Nat → Int32} {len d m j : Nat} (h : j < len) : qr_copy res len d m j = res j := qp_copy_k m 0 j (Nat.zero_le _) h
theorem qp_copy_r {res : Nat → Int32} {len d m i : Nat} (hi : i < m) (hd : 1 ≤ d) (hl : d ≤ len) : qr_copy res len d m (len + i) = qr_copy res len d m (len + i - d) := by
  rw [qp_copy_k m (i + 1) (len + i) (by omega) (by omega), qr_copy, pk_us, ← qp_copy_k m i (len + i - d) (by omega) (by omega)]
/-- what an accepted reading keeps -/
theorem qp_keep {B : Nat → Int32} {bl F E K T : Nat} : ∀ g s a len res n res', qr_read B bl F E K T g s a len res = (0, n, res') → len ≤ n ∧ ∀ j, j < len → res' j = res j := by
  intro g
  induction g with
  | zero => intro s a len res n res' h; rw [qr_read] at h; exact (qp_ne (by decide) h).elim
  | succ g ih =>
    intro s a len res n res' h
    rw [qr_read] at h
    generalize qr_number B bl F E (a + 1) (qr_c B a / 16) = nl at h
    split at h
    · exact (qp_ne (by decide) h).elim
    split at h
    · exact (qp_ne (by decide) h).elim
    unfold qr_l1 at h
    split at h
    · rename_i q; exact (qp_ne q h).elim
    split at h
    · exact (qp_ne (by decide) h).elim
    split at h
    · exact (qp_ne (by decide) h).elim
    have kf : ∀ j, j < len → qd_fill res len (fun i => B (nl.2.2 + i)) nl.2.1 j = res j := fun j hj => qd_fill_out (Or.inl hj)
    split at h
    · split at h
      · exact (qp_ne (by decide) h).elim
      · have e1 : len + nl.2.1 = n := congrArg (fun z => z.2.1) h
        have e2 : qd_fill res len (fun i => B (nl.2.2 + i)) nl.2.1 = res' := congrArg (fun z => z.2.2) h
        exact ⟨by omega, fun j hj => by rw [← e2]; exact kf j hj⟩
    · unfold qr_m1 at h
      split at h
      · exact (qp_ne (by decide) h).elim
      split at h
      · exact (qp_ne (by decide) h).elim
      generalize qr_number B bl F E (nl.2.2 + nl.2.1 + 2) (qr_c B a % 16) = nx at h
      unfold qr_m2 at h
      split at h
      · rename_i q; exact (qp_ne q h).elim
      split at h
      · exact (qp_ne (by decide) h).elim
      obtain ⟨i1, i2⟩ := ih _ _ _ _ _ _ h
      refine ⟨by omega, fun j hj => ?_⟩
      rw [i2 j (by omega), qp_copy_lo (by omega)]
      exact kf j hj
/-- the plan's cost is at most what is left of a block that reads as SOURCE -/
theorem qp_min {S B : Nat → Int32} {n bl F E K T : Nat} {pc pl pm pd : Nat → Nat} (hP : ∀ p, p ≤ n → qd_PL S n F E K T pc pl pm pd p) (hE : 1 ≤ E) (hB : qd_by B) (hb : bl ≤ 64) :
    ∀ g s a len res res', qr_read B bl F E K T g s a len res = (0, n, res') → (∀ j, j < n → res' j = S j) → (s = 0 → len = 0) → a ≤ bl ∧ pc len ≤ bl - a := by
  intro g
  induction g with
  | zero => intro s a len res res' h; rw [qr_read] at h; exact (qp_ne (by decide) h).elim
  | succ g ih =>
    intro s a len res res' h hr hs
    have hk := (qp_keep _ _ _ _ _ _ _ h).1
    rw [qr_read] at h
    split at h
    · exact (qp_ne (by decide) h).elim
    rename_i hab
    split at h
    · exact (qp_ne (by decide) h).elim
    rename_i hfld
    have nb := qr_number_b (bl := bl) (F := F) (E := E) (a := a + 1) (x := qr_c B a / 16) hB (by omega) hb
    have ne : ∀ x' a', qr_number B bl F E (a + 1) (qr_c B a / 16) = (0, x', a') → a' = a + 1 + qd_ext F E x' := fun x' a' e => qp_number hE (by omega) e
    generalize qr_number B bl F E (a + 1) (qr_c B a / 16) = nl at h nb ne
    obtain ⟨cd, l, a2⟩ := nl
    unfold qr_l1 at h
    dsimp only at h nb ne
    split at h
    · rename_i q; exact (qp_ne q h).elim
    rename_i hcd
    have hcd : cd = 0 := by omega
    have e2 := ne l a2 (by rw [hcd])
    split at h
    · exact (qp_ne (by decide) h).elim
    split at h
    · exact (qp_ne (by decide) h).elim
    rename_i hsh hov
    have hh : qd_hd F E l = 1 + qd_ext F E l + l := rfl
    refine ⟨by omega, ?_⟩
    split at h
    · rename_i hend
      split at h
      · exact (qp_ne (by decide) h).elim
      · rename_i hbad
        have e1 : len + l = n := congrArg (fun z => z.2.1) h
        have hf : qd_fin n T len := by
          unfold qd_fin
          by_cases hs0 : s = 0
          · exact Or.inl (hs hs0)
          · right
            have : ¬ (0 < s ∧ l < T) := fun z => hbad (Or.inr z)
            omega
        have := (hP len hk).2.2.2.1 hf
        have e3 : n - len = l := by omega
        rw [e3] at this
        omega
    · rename_i hend
      unfold qr_m1 at h
      split at h
      · exact (qp_ne (by decide) h).elim
      rename_i h2
      generalize hdd : qr_c B (a2 + l) + 256 * qr_c B (a2 + l + 1) = d at h
      split at h
      · exact (qp_ne (by decide) h).elim
      rename_i hd
      have mb := qr_number_b (bl := bl) (F := F) (E := E) (a := a2 + l + 2) (x := qr_c B a % 16) hB (by omega) hb
      have me : ∀ x' a', qr_number B bl F E (a2 + l + 2) (qr_c B a % 16) = (0, x', a') → a' = a2 + l + 2 + qd_ext F E x' := fun x' a' e => qp_number hE (by omega) e
      generalize qr_number B bl F E (a2 + l + 2) (qr_c B a % 16) = nx at h mb me
      obtain ⟨cx, x, a4⟩ := nx
      unfold qr_m2 at h
      dsimp only at h mb me
      split at h
      · rename_i q; exact (qp_ne q h).elim
      rename_i hcx
      have hcx : cx = 0 := by omega
      have e4 := me x a4 (by rw [hcx])
      split at h
      · exact (qp_ne (by decide) h).elim
      rename_i hov2
      obtain ⟨i1, i2⟩ := ih _ _ _ _ _ h hr (fun z => absurd z (by omega))
      obtain ⟨k1, k2⟩ := qp_keep _ _ _ _ _ _ _ h
      have hrep : qd_rep S (len + l) (K + x) d := by
        intro i hi
        rw [← hr _ (by omega), ← hr _ (by omega), k2 _ (by omega), k2 _ (by omega)]
        exact qp_copy_r hi (by omega) (by omega)
      have hD : 0 < qd_D S (len + l) (K + x) := by
        rcases qd_Ds S (len + l) (K + x) with ⟨_, z⟩ | ⟨z, _⟩
        · exact absurd hrep (z d (by omega) (by omega))
        · exact z
      have hc := (hP len hk).2.2.1 l (K + x) ⟨by omega, by omega, hD⟩
      unfold qd_cost at hc
      have e5 : K + x - K = x := by omega
      have e6 : len + l + (K + x) = len + l + K + x := by omega
      rw [e5] at hc
      omega
theorem qt_num {B : Nat → Int32} {E : Nat} (h2 : E ≤ 255) : ∀ k g a y r, r < E → (∀ i, i < k → B (a + i) = nI E) → B (a + k) = nI r → k < g → qr_num B E g a y = (0, y + k * E + r, a + k + 1) := by
  intro k
  induction k with
  | zero =>
    intro g a y r hr _ hB hg
    obtain ⟨g, rfl⟩ : ∃ g', g = g' + 1 := ⟨g - 1, by omega⟩
    have e : qr_c B a = r := by
      unfold qr_c
      rw [show B a = nI r from hB]
      exact nI_clamp (by omega)
    have e1 : y + 0 * E + r = y + r := by omega
    rw [qr_num, e, if_neg (by omega), if_pos hr, e1]
    all_goals rfl
  | succ k ih =>
    intro g a y r hr hE hB hg
    obtain ⟨g, rfl⟩ : ∃ g', g = g' + 1 := ⟨g - 1, by omega⟩
    have e : qr_c B a = E := by
      unfold qr_c
      rw [show B a = nI E from hE 0 (by omega)]
      exact nI_clamp (by omega)
    rw [qr_num, e, if_neg (by omega), if_neg (by omega)]
    rw [ih g (a + 1) (y + E) r hr (fun i hi => by rw [← hE (i + 1) (by omega)]; exact congrArg B (by omega)) (by rw [← hB]; exact congrArg B (by omega)) (by omega)]
    have e1 : y + E + k * E + r = y + (k + 1) * E + r := by rw [Nat.add_mul, Nat.one_mul]; omega
    have e2 : a + 1 + k + 1 = a + (k + 1) + 1 := by omega
    rw [e1, e2]
theorem qt_number {B : Nat → Int32} {bl F E a x : Nat} (h1 : 1 ≤ E) (h2 : E ≤ 255) (hb : a + qd_ext F E x ≤ bl) (hB : ∀ i, i < qd_ext F E x → B (a + i) = qd_xg F E x i) :
    qr_number B bl F E a (qw_fld F x) = (0, x, a + qd_ext F E x) := by
  unfold qr_number
  by_cases h : x < F
  · have e : qw_fld F x = x := if_pos h
    have e2 : a + qd_ext F E x = a := by have := qd_ext_lt (E := E) h; omega
    rw [e, if_pos h, e2]
  · have e : qw_fld F x = F := if_neg h
    have ee := qd_ext_ge (E := E) (show F ≤ x by omega)
    rw [ee] at hb hB
    rw [e, if_neg (by omega), ee]
    have k1 : ∀ i, i < (x - F) / E → B (a + i) = nI E := fun i hi => by
      rw [hB i (by omega)]
      exact if_pos hi
    have k2 : B (a + (x - F) / E) = nI ((x - F) % E) := by
      rw [hB _ (by omega)]
      exact if_neg (by omega)
    rw [qt_num h2 ((x - F) / E) (bl - a) a F ((x - F) % E) (Nat.mod_lt _ (by omega)) k1 k2 (by omega)]
    have := Nat.div_add_mod' (x - F) E
    have e1 : F + (x - F) / E * E + (x - F) % E = x := by omega
    rw [e1, Nat.add_assoc]
theorem qt_copy {S res : Nat → Int32} {q d : Nat} (h1 : 1 ≤ d) (h2 : d ≤ q) (hr : ∀ j, j < q → res j = S j) : ∀ m, qd_rep S q m d → ∀ j, j < q + m → qr_copy res q d m j = S j := by
  intro m
  induction m with
  | zero => intro _ j hj; exact hr j hj
  | succ m ih =>
    intro hp j hj
    have ih := ih (fun i hi => hp i (by omega))
    rw [qr_copy]
    by_cases e : j = q + m
    · rw [e, pk_us, ih _ (by omega), hp m (by omega)]
    · rw [pk_un e]
      exact ih j (by omega)
/-- the planned block reads as SOURCE -/
theorem qt_trip {S : Nat → Int32} {n F E K T : Nat} {pc pl pm pd : Nat → Nat} (hP : ∀ p, p ≤ n → qd_PL S n F E K T pc pl pm pd p) (hn : n ≤ 32) (hK : 1 ≤ K)
    (hS : qd_by S) (h1 : 1 ≤ E) (h2 : E ≤ 255) (hF : F ≤ 15) :
    ∀ g p b blk r s res, p ≤ n → pc p < 1000000 → n - p < g → pc p < r → (0 < s → 0 < p) → (∀ j, j < p → res j = S j) →
      ∃ res', qr_read (qw S F E K pl pm pd g p b blk).2 (b + pc p) F E K T r s b p res = (0, n, res') ∧ ∀ j, j < n → res' j = S j := by
  intro g
  induction g with
  | zero => intro p b blk r s res hp hc hg; omega
  | succ g ih =>
    intro p b blk r s res hp hc hg hr hs hres
    obtain ⟨r, rfl⟩ : ∃ r', r = r' + 1 := ⟨r - 1, by omega⟩
    have ok := qw_ok hP hn hK hS h1 h2 hF
    have q5 := (hP p hp).2.2.2.2
    have q2 := (hP p hp).2.1
    have hl : pl p ≤ n - p := by
      rcases q5 with q5 | ⟨_, g2, _⟩ | ⟨g1, _⟩
      · omega
      · omega
      · have := g1.2.1
        omega
    have tl := qw_tok_lt (F := F) (K := K) (l := pl p) (m := pm p) hF
    have hfl := qw_fld_le (F := F) (x := pl p)
    have hfm := qw_fld_le (F := F) (x := pm p - K)
    have hhd : qd_hd F E (pl p) = 1 + qd_ext F E (pl p) + pl p := rfl
    -- the cells of the head
    have hB : ∃ B : Nat → Int32, B = (qw S F E K pl pm pd (g + 1) p b blk).2 := ⟨_, rfl⟩
    obtain ⟨B, hB⟩ := hB
    have hH : ∀ j, j < b + qd_hd F E (pl p) → B j = qw_head S F E blk b p (pl p) (qw_tok F K (pl p) (pm p)) j := by
      intro j hj
      rw [hB, qw]
      by_cases hm : pm p = 0
      · rw [if_pos hm]
      · rw [if_neg hm]
        rcases q5 with q5 | ⟨g1, _⟩ | ⟨g1, g2, g3, g4, _⟩
        · omega
        · exact absurd g1 hm
        · have h4 := g1.2.1
          have h5 := g1.1
          unfold qd_cost at g3
          rw [(ok g _ _ _ g1.2.1 (by omega) (by omega)).2.2 j (by omega)]
          unfold qw_mat
          rw [qd_fill_out (by omega), pk_un (by omega), pk_un (by omega)]
    have c0 : qr_c B b = qw_tok F K (pl p) (pm p) := by
      unfold qr_c
      rw [hH b (by omega)]
      unfold qw_head
      rw [qd_fill_out (by omega), qd_fill_out (by omega), pk_us]
      exact nI_clamp (by omega)
    have c1 : ∀ i, i < qd_ext F E (pl p) → B (b + 1 + i) = qd_xg F E (pl p) i := by
      intro i hi
      rw [hH _ (by omega)]
      unfold qw_head
      rw [qd_fill_out (by omega), qd_fill_in hi]
    have c2 : ∀ i, i < pl p → B (b + 1 + qd_ext F E (pl p) + i) = S (p + i) := by
      intro i hi
      rw [hH _ (by omega)]
      unfold qw_head
      rw [qd_fill_in hi]
    have t1 : qw_tok F K (pl p) (pm p) / 16 = qw_fld F (pl p) := by
      unfold qw_tok
      split <;> omega
    have t2 : qw_tok F K (pl p) (pm p) % 16 = (if pm p = 0 then 0 else qw_fld F (pm p - K)) := by
      unfold qw_tok
      split <;> omega
    have t3 : ¬ (F < qw_fld F (pl p) ∨ F < (if pm p = 0 then 0 else qw_fld F (pm p - K))) := by
      split <;> omega
    rw [← hB, qr_read, if_neg (by omega), c0, t1, t2, if_neg t3]
    have hfill : ∀ j, j < p + pl p → qd_fill res p (fun i => B (b + 1 + qd_ext F E (pl p) + i)) (pl p) j = S j := by
      intro j hj
      by_cases e : j < p
      · rw [qd_fill_out (by omega)]; exact hres j e
      · obtain ⟨i, rfl⟩ : ∃ i, j = p + i := ⟨j - p, by omega⟩
        rw [qd_fill_in (by omega)]
        exact c2 i (by omega)
    rcases q5 with q5 | ⟨g1, g2, g3, g4, _⟩ | ⟨g1, g2, g3, g4, _⟩
    · omega
    · have hlen : qd_hd F E (pl p) = pc p := by rw [g2]; exact g4.symm
      rw [qt_number h1 h2 (by omega) c1]
      unfold qr_l1
      rw [if_neg (by simp), if_neg (by dsimp only; omega), if_neg (by dsimp only; omega), if_pos (by dsimp only; omega), if_neg (by
        dsimp only
        rw [if_pos g1]
        unfold qd_fin at g3
        omega)]
      dsimp only
      have e : p + pl p = n := by omega
      rw [e]
      rw [e] at hfill
      exact ⟨_, rfl, hfill⟩
    · have h4 := g1.2.1
      have h5 := g1.1
      have h6 := g1.2.2
      have hm : pm p ≠ 0 := by omega
      have hcn := (hP _ g1.2.1).2.1
      unfold qd_cost at g3
      rw [qt_number h1 h2 (by omega) c1]
      rw [if_neg hm]
      have hd1 : 1 ≤ pd p := by omega
      have hd2 : pd p ≤ p + pl p := by rw [g4]; exact qd_Dle _ _ _
      have hrep : qd_rep S (p + pl p) (pm p) (pd p) := by
        rcases qd_Ds S (p + pl p) (pm p) with ⟨z, _⟩ | ⟨_, _, z, _⟩
        · omega
        · rw [g4]; exact z
      have hM : ∀ j, j < b + qd_hd F E (pl p) + (2 + qd_ext F E (pm p - K)) → B j = qw_mat F E (qw_head S F E blk b p (pl p) (qw_tok F K (pl p) (pm p))) (b + qd_hd F E (pl p)) (pd p) (pm p - K) j := by
        intro j hj
        rw [hB, qw, if_neg hm, (ok g _ _ _ g1.2.1 (by omega) (by omega)).2.2 j (by omega)]
      have a3 : b + 1 + qd_ext F E (pl p) + pl p = b + qd_hd F E (pl p) := by omega
      have d0 : qr_c B (b + qd_hd F E (pl p)) = pd p % 256 := by
        unfold qr_c
        rw [hM _ (by omega)]
        unfold qw_mat
        rw [qd_fill_out (by omega), pk_un (by omega), pk_us]
        exact nI_clamp (by omega)
      have d1 : qr_c B (b + qd_hd F E (pl p) + 1) = pd p / 256 := by
        unfold qr_c
        rw [hM _ (by omega)]
        unfold qw_mat
        rw [qd_fill_out (by omega), pk_us]
        exact nI_clamp (by omega)
      have d2 : ∀ i, i < qd_ext F E (pm p - K) → B (b + qd_hd F E (pl p) + 2 + i) = qd_xg F E (pm p - K) i := by
        intro i hi
        rw [hM _ (by omega)]
        unfold qw_mat
        rw [qd_fill_in hi]
      have dd : pd p % 256 + 256 * (pd p / 256) = pd p := by omega
      unfold qr_l1
      rw [if_neg (by simp), if_neg (by dsimp only; omega), if_neg (by dsimp only; omega), if_neg (by dsimp only; omega)]
      dsimp only
      rw [a3]
      unfold qr_m1
      rw [d0, d1, dd, if_neg (by omega), if_neg (by omega)]
      rw [qt_number h1 h2 (by omega) d2]
      unfold qr_m2
      rw [if_neg (by simp), if_neg (by dsimp only; omega)]
      dsimp only
      have e1 : K + (pm p - K) = pm p := by omega
      rw [e1]
      have key := ih (p + pl p + pm p) (b + qd_hd F E (pl p) + (2 + qd_ext F E (pm p - K)))
        (qw_mat F E (qw_head S F E blk b p (pl p) (qw_tok F K (pl p) (pm p))) (b + qd_hd F E (pl p)) (pd p) (pm p - K)) r (s + 1)
        (qr_copy (qd_fill res p (fun i => B (b + 1 + qd_ext F E (pl p) + i)) (pl p)) (p + pl p) (pd p) (pm p)) g1.2.1 (by omega) (by omega) (by omega) (fun _ => by omega)
        (qt_copy hd1 hd2 hfill (pm p) hrep)
      have eB : (qw S F E K pl pm pd g (p + pl p + pm p) (b + qd_hd F E (pl p) + (2 + qd_ext F E (pm p - K)))
        (qw_mat F E (qw_head S F E blk b p (pl p) (qw_tok F K (pl p) (pm p))) (b + qd_hd F E (pl p)) (pd p) (pm p - K))).2 = B := by
        rw [hB, qw, if_neg hm]
      have el : b + qd_hd F E (pl p) + (2 + qd_ext F E (pm p - K)) + pc (p + pl p + pm p) = b + pc p := by omega
      have ea : b + qd_hd F E (pl p) + 2 + qd_ext F E (pm p - K) = b + qd_hd F E (pl p) + (2 + qd_ext F E (pm p - K)) := by omega
      rw [eB, el] at key
      rw [ea]
      exact key
/-- two plans of one SOURCE cost the same -/
theorem qt_uniq {S : Nat → Int32} {n F E K T : Nat} {pc pl pm pd pc' pl' pm' pd' : Nat → Nat} (hP : ∀ p, p ≤ n → qd_PL S n F E K T pc pl pm pd p)
    (hP' : ∀ p, p ≤ n → qd_PL S n F E K T pc' pl' pm' pd' p) (hK : 1 ≤ K) : ∀ w p, p + w = n → pc p ≤ pc' p := by
  intro w
  induction w using Nat.strongRecOn with
  | ind w ih =>
    intro p hw
    obtain ⟨a1, a2, a3, a4, _⟩ := hP p (by omega)
    obtain ⟨_, _, _, _, b5⟩ := hP' p (by omega)
    rcases b5 with b5 | ⟨_, _, g3, g4, _⟩ | ⟨g1, _, g3, _⟩
    · omega
    · rw [g4]; exact a4 g3
    · have t1 := a3 _ _ g1
      have h4 := g1.1
      have h5 := g1.2.1
      have t2 := ih (n - (p + pl' p + pm' p)) (by omega) (p + pl' p + pm' p) (by omega)
      unfold qd_cost at t1 g3
      omega
end
section
/-! the component's planner -/
theorem qx_u {a : Nat → Int32} {k : Nat} {c : Int32} (h : k < 2 ^ 31 := by omega) : upd a (nI k).toNatClampNeg c = upd a k c := by rw [nI_clamp h]
theorem qx_g {a : Nat → Int32} {k : Nat} (h : k < 2 ^ 31 := by omega) : a (nI k).toNatClampNeg = a k := by rw [nI_clamp h]
theorem qx_uu {a : Nat → Int32} {k : Nat} {x y : Int32} (h : k < 2 ^ 31 := by omega) : upd (upd a k x) (nI k).toNatClampNeg y = upd a k y := by rw [nI_clamp h, qd_uu]
theorem qx_lim {n p K l : Nat} (hp : p ≤ n) (hn : n ≤ 32) (hK : K ≤ 6) (hl : l ≤ 64) : nI n - nI p - nI K < nI l ↔ n - p + 1 - K ≤ l := by
  rw [pk_sub hp, Int32.lt_iff_toInt_lt, pk_sub_toInt (by omega) (by omega), nI_toInt (by omega)]
  omega
section
variable {F E K T n bl ol : Nat} {rl cu : Int32} {S B O R PC PL PM PD : Nat → Int32}
theorem qx_ext {post : Int32 → Prop} {x : Nat} (hE : 2 ≤ E) (hE2 : E ≤ 255) (hF : F ≤ 15) (hx : x < 1000000) (h : post (nI (qd_ext F E x))) : wpX_extensionLength post (nI F, nI E, nI K, nI T, nI n, nI bl, nI ol, rl, cu, S, B, O, R, PC, PL, PM, PD) (nI x) := by
  by_cases c : F ≤ x
  · refine br_t (nI_le c (by omega)) ⟨nI_ne0 (by omega) (by omega), ?_⟩
    rw [pk_sub c, pk_div (by omega) (by omega) (by omega), nI_1]
    rw [qd_ext_ge c] at h
    exact h
  · refine br_f (nI_ge (by omega) (by omega)) ?_
    rw [qd_ext_lt (by omega)] at h
    exact h
theorem qx_rep3 {post : Int32 → Prop} {q m d : Nat} (hq : q + m ≤ 32) (hd : d ≤ q) (h1 : qd_rep S q m d → post 1) (h0 : ¬ qd_rep S q m d → post 0) :
    ∀ k i, i + k = m → (∀ j, j < i → S (q + j) = S (q + j - d)) → ∀ f, k < f → wX_repeatsAt_3 post (nI q) (nI m) (nI d) (nI F) (nI E) (nI K) (nI T) (nI n) (nI bl) (nI ol) rl cu S B O R PC PL PM PD f (nI (q + i)) := by
  intro k
  induction k with
  | zero =>
    intro i hi hr f hf
    obtain ⟨f, rfl⟩ : ∃ f', f = f' + 1 := ⟨f - 1, by omega⟩
    have e : nI q + nI m ≤ nI (q + i) := by rw [nI_add]; exact nI_le (by omega) (by omega)
    exact br_t e (h1 (fun j hj => hr j (by omega)))
  | succ k ih =>
    intro i hi hr f hf
    obtain ⟨f, rfl⟩ : ∃ f', f = f' + 1 := ⟨f - 1, by omega⟩
    have e : ¬ nI q + nI m ≤ nI (q + i) := by rw [nI_add]; exact nI_ge (by omega) (by omega)
    have es : nI (q + i) - nI d = nI (q + i - d) := pk_sub (by omega)
    refine br_f e ⟨vp_in_nI (by omega) (by decide), by rw [es]; exact vp_in_nI (by omega) (by decide), ?_⟩
    rw [es, nI_clamp (by omega), nI_clamp (by omega)]
    by_cases c : S (q + i) = S (q + i - d)
    · exact br_t c (nm_r (nI_1 _) (ih (i + 1) (by omega) (lt_s hr c) f (by omega)))
    · exact br_f c (h0 (fun z => c (z i (by omega))))
theorem qx_rep {post : Int32 → Prop} {q m d : Nat} (hq : q + m ≤ 32) (hd : d ≤ q) (h1 : qd_rep S q m d → post 1) (h0 : ¬ qd_rep S q m d → post 0) :
    wpX_repeatsAt post (nI F, nI E, nI K, nI T, nI n, nI bl, nI ol, rl, cu, S, B, O, R, PC, PL, PM, PD) (nI q) (nI m) (nI d) :=
  ⟨m + 1, qx_rep3 hq hd h1 h0 m 0 (by omega) lt_0 (m + 1) (by omega)⟩
theorem qx_nd2 {post : Int32 → Prop} {q m : Nat} (hq : q + m ≤ 32) (h : post (nI (qd_D S q m))) :
    ∀ k d, d + k = q + 1 → 1 ≤ d → (∀ e, 1 ≤ e → e < d → ¬ qd_rep S q m e) → ∀ f, k < f → wX_nearestDistance_2 post (nI q) (nI m) (nI F) (nI E) (nI K) (nI T) (nI n) (nI bl) (nI ol) rl cu S B O R PC PL PM PD f (nI d) := by
  intro k
  induction k with
  | zero =>
    intro d hd h1 hr f hf
    obtain ⟨f, rfl⟩ : ∃ f', f = f' + 1 := ⟨f - 1, by omega⟩
    have e : qd_D S q m = 0 := qd_De (Or.inl ⟨rfl, fun e g1 g2 => hr e g1 (by omega)⟩)
    rw [e] at h
    exact br_t (nI_lt (by omega) (by omega)) h
  | succ k ih =>
    intro d hd h1 hr f hf
    obtain ⟨f, rfl⟩ : ∃ f', f = f' + 1 := ⟨f - 1, by omega⟩
    refine br_f (nI_nlt (by omega) (by omega)) (qx_rep hq (by omega) (fun y => ?_) (fun y => ?_))
    · have e : qd_D S q m = d := qd_De (Or.inr ⟨h1, by omega, y, hr⟩)
      rw [e] at h
      exact br_f (by decide) h
    · refine br_t rfl (nm_r (nI_1 d) (ih (d + 1) (by omega) (by omega) (fun e g1 g2 => ?_) f (by omega)))
      by_cases c : e = d
      · rw [c]; exact y
      · exact hr e g1 (by omega)
theorem qx_nd {post : Int32 → Prop} {q m : Nat} (hq : q + m ≤ 32) (h : post (nI (qd_D S q m))) : wpX_nearestDistance post (nI F, nI E, nI K, nI T, nI n, nI bl, nI ol, rl, cu, S, B, O, R, PC, PL, PM, PD) (nI q) (nI m) :=
  ⟨q + 2, qx_nd2 hq h q 1 (by omega) (by omega) (fun e g1 g2 => absurd g2 (by omega)) (q + 2) (by omega)⟩
theorem qx_cost_le {pc : Nat → Nat} {p l m : Nat} (hE : 2 ≤ E) (hF : 2 ≤ F) (hl : l ≤ 32) (hm : m ≤ 32) (hc : pc (p + l + m) ≤ 1000000) : qd_cost F E K pc p l m ≤ 1000100 := by
  have h1 := qd_hd49 (F := F) (l := l) hE hF hl
  have h2 := qd_ext16 (F := F) (E := E) (x := m - K) hE hF (by omega)
  unfold qd_cost
  omega
theorem qx_pm23 {post : St2 → Prop} {p l : Nat} {pc : Nat → Nat} (hE : 2 ≤ E) (hE2 : E ≤ 255) (hF2 : 2 ≤ F) (hF : F ≤ 15) (hK3 : 3 ≤ K) (hK : K ≤ 6) (hn : n ≤ 32)
    (hT : ∀ j, p < j → j ≤ n → PC j = nI (pc j) ∧ pc j ≤ 1000000)
    (hpost : ∀ mm c a b d, mm < K → qd_best S n F E K pc p l mm c a b d → post (nI F, nI E, nI K, nI T, nI n, nI bl, nI ol, rl, cu, S, B, O, R, upd PC p (nI c), upd PL p (nI a), upd PM p (nI b), upd PD p (nI d))) :
    ∀ k mm, mm + 1 = k + K → p + l + mm ≤ n → ∀ c a b d, qd_best S n F E K pc p l mm c a b d → ∀ f, k < f →
      wX_planMatches_23 post (nI p) (nI l) (nI (p + l)) (nI (qd_hd F E l)) (nI F) (nI E) (nI K) (nI T) (nI n) (nI bl) (nI ol) rl cu f (nI mm) S B O R (upd PC p (nI c)) (upd PL p (nI a)) (upd PM p (nI b)) (upd PD p (nI d)) := by
  intro k
  induction k with
  | zero =>
    intro mm hm hp c a b d hb f hf
    obtain ⟨f, rfl⟩ : ∃ f', f = f' + 1 := ⟨f - 1, by omega⟩
    exact br_t (nI_lt (by omega) (by omega)) (hpost mm c a b d (by omega) hb)
  | succ k ih =>
    intro mm hm hp c a b d hb f hf
    obtain ⟨f, rfl⟩ : ∃ f', f = f' + 1 := ⟨f - 1, by omega⟩
    have hc1 := hb.1
    obtain ⟨t1, t2⟩ := hT (p + l + mm) (by omega) (by omega)
    have hcost := qx_cost_le (F := F) (E := E) (K := K) (pc := pc) (p := p) (l := l) (m := mm) hE hF2 (by omega) (by omega) t2
    have ei : nI (p + l) + nI mm = nI (p + l + mm) := nI_add _ _
    refine br_f (nI_nlt (by omega) (by omega)) ?_
    rw [pk_sub (show K ≤ mm by omega)]
    refine qx_ext hE hE2 hF (by omega) ?_
    refine nm_r (nI_add 2 _) ⟨by rw [ei]; exact vp_in_nI (by omega) (by decide), nm_r (e' := nI (qd_cost F E K pc p l mm)) ?_ ⟨vp_in_nI (by omega) (by decide), ?_⟩⟩
    · rw [ei, nI_clamp (by omega), pk_un (by omega), t1, nI_add, nI_add]
      rfl
    · have eu : upd PC p (nI c) (nI p).toNatClampNeg = nI c := by rw [nI_clamp (by omega), pk_us]
      rw [eu]
      by_cases hc : c ≤ qd_cost F E K pc p l mm
      · exact br_t (nI_le hc (by omega)) (nm_r (sb_m1 (by omega)) (ih (mm - 1) (by omega) (by omega) c a b d (qd_best_skip hb (by omega) (by omega)) f (by omega)))
      · refine br_f (nI_ge (by omega) (by omega)) (qx_nd (by omega) ?_)
        have hDl := qd_Dle S (p + l) mm
        by_cases hD : qd_D S (p + l) mm = 0
        · rw [hD]
          exact br_t (by decide) (nm_r (sb_m1 (by omega)) (ih (mm - 1) (by omega) (by omega) c a b d (qd_best_skip hb (by omega) (by omega)) f (by omega)))
        · have hv : vp_in (nI p) 33 := vp_in_nI (by omega) (by decide)
          have hh := ih (mm - 1) (by omega) (by omega) _ _ _ _ (qd_best_take hb (by omega) hp (by omega) (by omega) (by omega)) f (by omega)
          exact br_f (nI_nle (by omega) (by omega)) ⟨hv, nm_r qx_uu ⟨hv, nm_r qx_uu ⟨hv, nm_r qx_uu ⟨hv, nm_r qx_uu (nm_r (sb_m1 (by omega)) hh)⟩⟩⟩⟩
theorem qx_pm {post : St2 → Prop} {p l c a b d : Nat} {pc : Nat → Nat} (hE : 2 ≤ E) (hE2 : E ≤ 255) (hF2 : 2 ≤ F) (hF : F ≤ 15) (hK3 : 3 ≤ K) (hK : K ≤ 6) (hn : n ≤ 32)
    (hT : ∀ j, p < j → j ≤ n → PC j = nI (pc j) ∧ pc j ≤ 1000000) (hl : p + l + K ≤ n) (hb : qd_best S n F E K pc p l (n - p - l) c a b d)
    (hpost : ∀ mm c a b d, mm < K → qd_best S n F E K pc p l mm c a b d → post (nI F, nI E, nI K, nI T, nI n, nI bl, nI ol, rl, cu, S, B, O, R, upd PC p (nI c), upd PL p (nI a), upd PM p (nI b), upd PD p (nI d))) :
    wpX_planMatches post (nI F, nI E, nI K, nI T, nI n, nI bl, nI ol, rl, cu, S, B, O, R, upd PC p (nI c), upd PL p (nI a), upd PM p (nI b), upd PD p (nI d)) (nI p) (nI l) := by
  refine nm_r (nI_add p l) (qx_ext hE hE2 hF (by omega) (nm_r (e' := nI (qd_hd F E l)) ?_ (nm_r (e' := nI (n - p - l)) ?_ ⟨n + 2, ?_⟩)))
  · rw [show (1 : Int32) + nI (qd_ext F E l) = nI (1 + qd_ext F E l) from nI_add 1 _, nI_add]
    rfl
  · rw [pk_sub (by omega)]
    exact congrArg nI (by omega)
  · exact qx_pm23 hE hE2 hF2 hF hK3 hK hn hT hpost (n - p - l + 1 - K) (n - p - l) (by omega) (by omega) c a b d hb (n + 2) (by omega)
theorem qx_pf20 {post : St2 → Prop} {p l0 m0 c a b d : Nat} {pc pl pm pd : Nat → Nat} (hE : 2 ≤ E) (hE2 : E ≤ 255) (hF2 : 2 ≤ F) (hF : F ≤ 15) (hK3 : 3 ≤ K) (hn : n ≤ 32) (hp : p ≤ n)
    (hb : qd_best S n F E K pc p l0 m0 c a b d) (hl : n < p + l0 + K) (hf : qd_fin n T p)
    (hpost : ∀ c a b d, qd_PL S n F E K T (qd_at pc p c) (qd_at pl p a) (qd_at pm p b) (qd_at pd p d) p → post (nI F, nI E, nI K, nI T, nI n, nI bl, nI ol, rl, cu, S, B, O, R, upd PC p (nI c), upd PL p (nI a), upd PM p (nI b), upd PD p (nI d))) :
    wX_planFinal_20 post (nI p) (nI (n - p)) (nI F) (nI E) (nI K) (nI T) (nI n) (nI bl) (nI ol) rl cu S B O R (upd PC p (nI c)) (upd PL p (nI a)) (upd PM p (nI b)) (upd PD p (nI d)) := by
  have h49 := qd_hd49 (F := F) (E := E) (l := n - p) hE hF2 (by omega)
  have hc1 := hb.1
  have hv : vp_in (nI p) 33 := vp_in_nI (by omega) (by decide)
  unfold wX_planFinal_20
  refine qx_ext hE hE2 hF (by omega) (nm_r (e' := nI (qd_hd F E (n - p))) ?_ ⟨hv, ?_⟩)
  · rw [show (1 : Int32) + nI (qd_ext F E (n - p)) = nI (1 + qd_ext F E (n - p)) from nI_add 1 _, nI_add]
    rfl
  · have eu : upd PC p (nI c) (nI p).toNatClampNeg = nI c := by rw [nI_clamp (by omega), pk_us]
    rw [eu]
    by_cases hc : c ≤ qd_hd F E (n - p)
    · exact br_t (nI_le hc (by omega)) (hpost c a b d (qd_PL_best hb hl (by omega) (fun _ => hc)))
    · exact br_f (nI_ge (by omega) (by omega)) ⟨hv, nm_r qx_uu ⟨hv, nm_r qx_uu ⟨hv, nm_r qx_uu ⟨hv, nm_r qx_uu (hpost _ _ _ _ (qd_PL_fin hb hl (by omega) hf (by omega)))⟩⟩⟩⟩
theorem qx_pf {post : St2 → Prop} {p l0 m0 c a b d : Nat} {pc pl pm pd : Nat → Nat} (hE : 2 ≤ E) (hE2 : E ≤ 255) (hF2 : 2 ≤ F) (hF : F ≤ 15) (hK3 : 3 ≤ K) (hT8 : T ≤ 8) (hn : n ≤ 32) (hp : p ≤ n)
    (hb : qd_best S n F E K pc p l0 m0 c a b d) (hl : n < p + l0 + K)
    (hpost : ∀ c a b d, qd_PL S n F E K T (qd_at pc p c) (qd_at pl p a) (qd_at pm p b) (qd_at pd p d) p → post (nI F, nI E, nI K, nI T, nI n, nI bl, nI ol, rl, cu, S, B, O, R, upd PC p (nI c), upd PL p (nI a), upd PM p (nI b), upd PD p (nI d))) :
    wpX_planFinal post (nI F, nI E, nI K, nI T, nI n, nI bl, nI ol, rl, cu, S, B, O, R, upd PC p (nI c), upd PL p (nI a), upd PM p (nI b), upd PD p (nI d)) (nI p) := by
  refine nm_r (pk_sub hp) ?_
  by_cases h0 : p = 0
  · refine br_t (by rw [h0]; decide) (qx_pf20 hE hE2 hF2 hF hK3 hn hp hb hl (Or.inl h0) hpost)
  · refine br_f (nI_nle (by omega) (by omega)) ?_
    by_cases ht : T ≤ n - p
    · exact br_t (nI_le ht (by omega)) (qx_pf20 hE hE2 hF2 hF hK3 hn hp hb hl (Or.inr ht) hpost)
    · refine br_f (nI_ge (by omega) (by omega)) (hpost c a b d (qd_PL_best hb hl (by omega) (fun z => ?_)))
      unfold qd_fin at z
      omega
theorem qx_ps31 {post : St2 → Prop} {J : Int32 → Int32 → Int32 → Int32 → Int32 → Int32 → Int32 → Int32 → Int32 → Int32 → (Nat → Int32) → (Nat → Int32) → (Nat → Int32) → (Nat → Int32) → (Nat → Int32) → (Nat → Int32) → (Nat → Int32) → (Nat → Int32) → Prop}
    {p : Nat} {pc pl pm pd : Nat → Nat} (hE : 2 ≤ E) (hE2 : E ≤ 255) (hF2 : 2 ≤ F) (hF : F ≤ 15) (hK3 : 3 ≤ K) (hK : K ≤ 6) (hT8 : T ≤ 8) (hn : n ≤ 32) (hp : p ≤ n)
    (hT : ∀ j, p < j → j ≤ n → PC j = nI (pc j) ∧ pc j ≤ 1000000)
    (hJ : ∀ c a b d, qd_PL S n F E K T (qd_at pc p c) (qd_at pl p a) (qd_at pm p b) (qd_at pd p d) p → J (nI p + (-1)) (nI F) (nI E) (nI K) (nI T) (nI n) (nI bl) (nI ol) rl cu S B O R (upd PC p (nI c)) (upd PL p (nI a)) (upd PM p (nI b)) (upd PD p (nI d))) :
    ∀ k l, l + k = n - p + 1 - K → ∀ c a b d, qd_best S n F E K pc p l (n - p - l) c a b d → ∀ f, k < f →
      wX_planSource_31 post J (nI p) (nI n - nI p - nI K) f (nI l) (nI F) (nI E) (nI K) (nI T) (nI n) (nI bl) (nI ol) rl cu S B O R (upd PC p (nI c)) (upd PL p (nI a)) (upd PM p (nI b)) (upd PD p (nI d)) := by
  intro k
  induction k with
  | zero =>
    intro l hl c a b d hb f hf
    obtain ⟨f, rfl⟩ : ∃ f', f = f' + 1 := ⟨f - 1, by omega⟩
    refine br_t ((qx_lim hp hn hK (by omega)).mpr (by omega)) ?_
    exact qx_pf hE hE2 hF2 hF hK3 hT8 hn hp hb (by omega) (fun c a b d h => nm_e (hJ c a b d h))
  | succ k ih =>
    intro l hl c a b d hb f hf
    obtain ⟨f, rfl⟩ : ∃ f', f = f' + 1 := ⟨f - 1, by omega⟩
    refine br_f (fun z => absurd ((qx_lim hp hn hK (by omega)).mp z) (by omega)) ?_
    exact qx_pm hE hE2 hF2 hF hK3 hK hn hT (by omega) hb (fun mm c a b d hm hb' => nm_r (nI_1 l) (ih (l + 1) (by omega) c a b d (qd_best_next hb' hm (by omega)) f (by omega)))
/-- tables from k on hold the plan -/
def qx_tab (F E K T n : Nat) (S PC PL PM PD : Nat → Int32) (pc pl pm pd : Nat → Nat) (k : Nat) : Prop :=
  ∀ j, k ≤ j → j ≤ n → PC j = nI (pc j) ∧ PL j = nI (pl j) ∧ PM j = nI (pm j) ∧ PD j = nI (pd j) ∧ qd_PL S n F E K T pc pl pm pd j
theorem qx_tab_s {p c a b d : Nat} {pc pl pm pd : Nat → Nat} (h : qx_tab F E K T n S PC PL PM PD pc pl pm pd (p + 1))
    (hP : qd_PL S n F E K T (qd_at pc p c) (qd_at pl p a) (qd_at pm p b) (qd_at pd p d) p) :
    qx_tab F E K T n S (upd PC p (nI c)) (upd PL p (nI a)) (upd PM p (nI b)) (upd PD p (nI d)) (qd_at pc p c) (qd_at pl p a) (qd_at pm p b) (qd_at pd p d) p := by
  intro j hj hn
  by_cases e : j = p
  · subst e
    rw [pk_us, pk_us, pk_us, pk_us, qd_at_s, qd_at_s, qd_at_s, qd_at_s]
    exact ⟨rfl, rfl, rfl, rfl, hP⟩
  · obtain ⟨h1, h2, h3, h4, h5⟩ := h j (by omega) hn
    rw [pk_un e, pk_un e, pk_un e, pk_un e, qd_at_n e, qd_at_n e, qd_at_n e, qd_at_n e]
    exact ⟨h1, h2, h3, h4, qd_PL_at (by omega) h5⟩
theorem qx_ps5 {post : St2 → Prop} (hE : 2 ≤ E) (hE2 : E ≤ 255) (hF2 : 2 ≤ F) (hF : F ≤ 15) (hK3 : 3 ≤ K) (hK : K ≤ 6) (hT8 : T ≤ 8) (hn : n ≤ 32)
    (hpost : ∀ PC PL PM PD pc pl pm pd, qx_tab F E K T n S PC PL PM PD pc pl pm pd 0 → post (nI F, nI E, nI K, nI T, nI n, nI bl, nI ol, rl, cu, S, B, O, R, PC, PL, PM, PD)) :
    ∀ k, k ≤ n + 1 → ∀ PC PL PM PD pc pl pm pd, qx_tab F E K T n S PC PL PM PD pc pl pm pd k → ∀ f, k < f → wX_planSource_5 post f (nI k + (-1)) (nI F) (nI E) (nI K) (nI T) (nI n) (nI bl) (nI ol) rl cu S B O R PC PL PM PD := by
  intro k
  induction k with
  | zero =>
    intro hk PC PL PM PD pc pl pm pd h f hf
    obtain ⟨f, rfl⟩ : ∃ f', f = f' + 1 := ⟨f - 1, by omega⟩
    exact br_t (by decide) (hpost PC PL PM PD pc pl pm pd h)
  | succ p ih =>
    intro hk PC PL PM PD pc pl pm pd h f hf
    obtain ⟨f, rfl⟩ : ∃ f', f = f' + 1 := ⟨f - 1, by omega⟩
    rw [pk_m1]
    refine br_f (nI_pos (by omega)) ⟨vp_in_nI (by omega) (by decide), nm_r (e' := upd PC p (nI 1000000)) ?_ (nm_e ⟨n + 2, ?_⟩)⟩
    · rw [nI_clamp (by omega)]
      rfl
    · obtain ⟨a, ha⟩ := qd_of32 (PL p)
      obtain ⟨b, hb⟩ := qd_of32 (PM p)
      obtain ⟨d, hd⟩ := qd_of32 (PD p)
      have key := qx_ps31 (post := post) (J := wX_planSource_5 post f) (F := F) (E := E) (K := K) (T := T) (n := n) (bl := bl) (ol := ol) (rl := rl) (cu := cu) (S := S) (B := B) (O := O) (R := R) (PC := PC) (PL := PL) (PM := PM) (PD := PD)
        (p := p) (pc := pc) (pl := pl) (pm := pm) (pd := pd) hE hE2 hF2 hF hK3 hK hT8 hn (by omega) (fun j h1 h2 => ⟨(h j (by omega) h2).1, (h j (by omega) h2).2.2.2.2.1⟩)
        (fun c a b d hP => ih (by omega) _ _ _ _ _ _ _ _ (qx_tab_s h hP) f (by omega)) (n - p + 1 - K) 0 (by omega) 1000000 a b d (qd_best_0 (by omega)) (n + 2) (by omega)
      rw [← ha, ← hb, ← hd, qd_ue, qd_ue, qd_ue] at key
      exact key
theorem qx_ps {post : St2 → Prop} (hE : 2 ≤ E) (hE2 : E ≤ 255) (hF2 : 2 ≤ F) (hF : F ≤ 15) (hK3 : 3 ≤ K) (hK : K ≤ 6) (hT8 : T ≤ 8) (hn : n ≤ 32)
    (hpost : ∀ PC PL PM PD pc pl pm pd, qx_tab F E K T n S PC PL PM PD pc pl pm pd 0 → post (nI F, nI E, nI K, nI T, nI n, nI bl, nI ol, rl, cu, S, B, O, R, PC, PL, PM, PD)) : wpX_planSource post (nI F, nI E, nI K, nI T, nI n, nI bl, nI ol, rl, cu, S, B, O, R, PC, PL, PM, PD) := by
  have key := qx_ps5 (bl := bl) (ol := ol) (rl := rl) (cu := cu) (B := B) (O := O) (R := R) hE hE2 hF2 hF hK3 hK hT8 hn hpost (n + 1) (by omega) PC PL PM PD (fun _ => 0) (fun _ => 0) (fun _ => 0) (fun _ => 0) (fun j h1 h2 => absurd h1 (by omega)) (n + 2) (by omega)
  rw [pk_m1] at key
  exact ⟨_, key⟩
end
end
section
/-! the component's writer -/
section
variable {F E K T n bl ol : Nat} {rl cu : Int32} {S B O R PC PL PM PD : Nat → Int32}
theorem qx_appB {post : St2 → Prop} {c : Int32} (hb : bl < 64) (h : post (nI F, nI E, nI K, nI T, nI n, nI (bl + 1), nI ol, rl, cu, S, upd B bl c, O, R, PC, PL, PM, PD)) : wpX_appendToBlock post (nI F, nI E, nI K, nI T, nI n, nI bl, nI ol, rl, cu, S, B, O, R, PC, PL, PM, PD) c :=
  br_f (nI_ge (b := 64) hb (by decide)) ⟨vp_in_nI hb (by decide), nm_r qx_u (nm_r (nI_1 bl) h)⟩
theorem qx_fld {post : Int32 → Prop} {x : Nat} (hF : F ≤ 15) (hx : x < 1000000) (h : post (nI (qw_fld F x))) : wpX_field post (nI F, nI E, nI K, nI T, nI n, nI bl, nI ol, rl, cu, S, B, O, R, PC, PL, PM, PD) (nI x) := by
  by_cases c : F ≤ x
  · rw [show qw_fld F x = F from if_neg (by omega)] at h
    exact br_t (nI_le c (by omega)) h
  · rw [show qw_fld F x = x from if_pos (by omega)] at h
    exact br_f (nI_ge (by omega) (by omega)) h
theorem qx_we26 {post : St2 → Prop} {x : Nat} (hE : 2 ≤ E) (hE2 : E ≤ 255) (hF : F ≤ 15) (hx : x < 1000000) (hFx : F ≤ x) (hb : bl + qd_ext F E x ≤ 64)
    (h : post (nI F, nI E, nI K, nI T, nI n, nI (bl + qd_ext F E x), nI ol, rl, cu, S, qd_fill B bl (qd_xg F E x) (qd_ext F E x), O, R, PC, PL, PM, PD)) :
    ∀ k i, i + k = (x - F) / E → ∀ f, k < f → wX_writeExtension_26 post (nI (x - F)) (nI ((x - F) / E)) f (nI i) (nI F) (nI E) (nI K) (nI T) (nI n) (nI (bl + i)) (nI ol) rl cu S (qd_fill B bl (qd_xg F E x) i) O R PC PL PM PD := by
  have ee := qd_ext_ge (E := E) hFx
  intro k
  induction k with
  | zero =>
    intro i hi f hf
    obtain ⟨f, rfl⟩ : ∃ f', f = f' + 1 := ⟨f - 1, by omega⟩
    refine br_t (nI_le (by omega) (by omega)) ⟨nI_ne0 (by omega) (by omega), ?_⟩
    rw [pk_rem (by omega) (by omega) (by omega)]
    refine qx_appB (by omega) ?_
    have e : qd_xg F E x i = nI ((x - F) % E) := if_neg (by omega)
    have e2 : qd_ext F E x = i + 1 := by omega
    rw [← e, qd_fill_s]
    rw [e2] at h
    exact h
  | succ k ih =>
    intro i hi f hf
    obtain ⟨f, rfl⟩ : ∃ f', f = f' + 1 := ⟨f - 1, by omega⟩
    refine br_f (nI_ge (by omega) (by omega)) (qx_appB (by omega) (nm_r (nI_1 i) ?_))
    have e : qd_xg F E x i = nI E := if_pos (by omega)
    have key := ih (i + 1) (by omega) f (by omega)
    rw [← qd_fill_s, e] at key
    exact key
theorem qx_we {post : St2 → Prop} {x : Nat} (hE : 2 ≤ E) (hE2 : E ≤ 255) (hF : F ≤ 15) (hx : x < 1000000) (hb : bl + qd_ext F E x ≤ 64)
    (h : post (nI F, nI E, nI K, nI T, nI n, nI (bl + qd_ext F E x), nI ol, rl, cu, S, qd_fill B bl (qd_xg F E x) (qd_ext F E x), O, R, PC, PL, PM, PD)) : wpX_writeExtension post (nI F, nI E, nI K, nI T, nI n, nI bl, nI ol, rl, cu, S, B, O, R, PC, PL, PM, PD) (nI x) := by
  by_cases c : F ≤ x
  · have key := qx_we26 (T := T) (K := K) (n := n) (ol := ol) (rl := rl) (cu := cu) (S := S) (O := O) (R := R) (PC := PC) (PL := PL) (PM := PM) (PD := PD) hE hE2 hF hx c hb h ((x - F) / E) 0 (by omega) ((x - F) / E + 1) (by omega)
    rw [qd_fill_0] at key
    exact br_t (nI_le c (by omega)) (nm_r (pk_sub c) ⟨nI_ne0 (by omega) (by omega), nm_r (pk_div (by omega) (by omega) (by omega)) ⟨_, key⟩⟩)
  · rw [qd_ext_lt (by omega), qd_fill_0] at h
    exact br_f (nI_ge (by omega) (by omega)) h
theorem qx_wl61 {post : St2 → Prop} {p l : Nat} (hp : p + l ≤ 32) (hb : bl + l ≤ 64) (h : post (nI F, nI E, nI K, nI T, nI n, nI (bl + l), nI ol, rl, cu, S, qd_fill B bl (fun i => S (p + i)) l, O, R, PC, PL, PM, PD)) :
    ∀ k i, i + k = l → ∀ f, k < f → wX_writeLiterals_61 post (nI p) (nI l) f (nI (p + i)) (nI F) (nI E) (nI K) (nI T) (nI n) (nI (bl + i)) (nI ol) rl cu S (qd_fill B bl (fun i => S (p + i)) i) O R PC PL PM PD := by
  intro k
  induction k with
  | zero =>
    intro i hi f hf
    obtain ⟨f, rfl⟩ : ∃ f', f = f' + 1 := ⟨f - 1, by omega⟩
    have e : nI p + nI l ≤ nI (p + i) := by rw [nI_add]; exact nI_le (by omega) (by omega)
    have e2 : i = l := by omega
    rw [← e2] at h
    exact br_t e h
  | succ k ih =>
    intro i hi f hf
    obtain ⟨f, rfl⟩ : ∃ f', f = f' + 1 := ⟨f - 1, by omega⟩
    have e : ¬ nI p + nI l ≤ nI (p + i) := by rw [nI_add]; exact nI_ge (by omega) (by omega)
    refine br_f e ⟨vp_in_nI (by omega) (by decide), ?_⟩
    rw [qx_g (a := S)]
    refine qx_appB (by omega) (nm_r (nI_1 (p + i)) ?_)
    have key := ih (i + 1) (by omega) f (by omega)
    rw [← qd_fill_s] at key
    exact key
theorem qx_wl32 {post : St2 → Prop} {p l z : Nat} (hE : 2 ≤ E) (hE2 : E ≤ 255) (hF : F ≤ 15) (hp : p + l ≤ 32) (hb : bl + qd_hd F E l ≤ 64)
    (h : post (nI F, nI E, nI K, nI T, nI n, nI (bl + qd_hd F E l), nI ol, rl, cu, S, qw_head S F E B bl p l (16 * qw_fld F l + z), O, R, PC, PL, PM, PD)) :
    wX_writeLiterals_32 post (nI p) (nI l) (nI z) (nI F) (nI E) (nI K) (nI T) (nI n) (nI bl) (nI ol) rl cu S B O R PC PL PM PD := by
  have hh : qd_hd F E l = 1 + qd_ext F E l + l := rfl
  have e1 : bl + qd_hd F E l = bl + 1 + qd_ext F E l + l := by omega
  unfold wX_writeLiterals_32
  refine qx_fld hF (by omega) (nm_r (e' := nI (16 * qw_fld F l + z)) ?_ (qx_appB (by omega) (qx_we hE hE2 hF (by omega) (by omega) ⟨l + 1, ?_⟩)))
  · rw [show (16 : Int32) * nI (qw_fld F l) = nI (16 * qw_fld F l) from pk_mul 16 _, nI_add]
  · rw [e1] at h
    have key := qx_wl61 (bl := bl + 1 + qd_ext F E l) (by omega) (by omega) h l 0 (by omega) (l + 1) (by omega)
    rw [qd_fill_0] at key
    exact key
theorem qx_wl {post : St2 → Prop} {p l m : Nat} (hE : 2 ≤ E) (hE2 : E ≤ 255) (hF : F ≤ 15) (hp : p + l ≤ 32) (hL : PL p = nI l) (hM : PM p = nI m) (hm : m = 0 ∨ (K ≤ m ∧ m ≤ 32))
    (hb : bl + qd_hd F E l ≤ 64) (h : post (nI F, nI E, nI K, nI T, nI n, nI (bl + qd_hd F E l), nI ol, rl, cu, S, qw_head S F E B bl p l (qw_tok F K l m), O, R, PC, PL, PM, PD)) : wpX_writeLiterals post (nI F, nI E, nI K, nI T, nI n, nI bl, nI ol, rl, cu, S, B, O, R, PC, PL, PM, PD) (nI p) := by
  have hv : vp_in (nI p) 33 := vp_in_nI (by omega) (by decide)
  refine ⟨hv, nm_r (e' := nI l) (by rw [qx_g (a := PL), hL]) ⟨hv, nm_r (e' := nI m) (by rw [qx_g (a := PM), hM]) ?_⟩⟩
  by_cases m0 : m = 0
  · have e : qw_tok F K l m = 16 * qw_fld F l + 0 := by unfold qw_tok; rw [if_pos m0]
    rw [e] at h
    exact br_t (by rw [m0]; rfl) (qx_wl32 hE hE2 hF hp hb h)
  · have e : qw_tok F K l m = 16 * qw_fld F l + qw_fld F (m - K) := by unfold qw_tok; rw [if_neg m0]
    rw [e] at h
    refine br_f (nI_ne0 (by omega) (by omega)) ?_
    rw [pk_sub (by omega)]
    exact qx_fld hF (by omega) (qx_wl32 hE hE2 hF hp hb h)
theorem qx_wm {post : St2 → Prop} {p m d : Nat} (hE : 2 ≤ E) (hE2 : E ≤ 255) (hF : F ≤ 15) (hp : p ≤ 32) (hM : PM p = nI m) (hD : PD p = nI d) (hm : K ≤ m) (hm2 : m ≤ 32) (hd : d ≤ 32)
    (hb : bl + (2 + qd_ext F E (m - K)) ≤ 64) (h : post (nI F, nI E, nI K, nI T, nI n, nI (bl + (2 + qd_ext F E (m - K))), nI ol, rl, cu, S, qw_mat F E B bl d (m - K), O, R, PC, PL, PM, PD)) : wpX_writeMatch post (nI F, nI E, nI K, nI T, nI n, nI bl, nI ol, rl, cu, S, B, O, R, PC, PL, PM, PD) (nI p) := by
  have hv : vp_in (nI p) 33 := vp_in_nI (by omega) (by decide)
  have n256 : ¬ (256 : Int32) = 0 := by decide
  have e1 : bl + (2 + qd_ext F E (m - K)) = bl + 1 + 1 + qd_ext F E (m - K) := by omega
  have ed : nI d / 256 = nI (d / 256) := pk_div (d := 256) (by omega) (by omega) (by omega)
  have er : nI d - nI d / 256 * 256 = nI (d % 256) := pk_rem (d := 256) (by omega) (by omega) (by omega)
  refine ⟨hv, nm_r (e' := nI d) (by rw [qx_g (a := PD), hD]) ⟨n256, ?_⟩⟩
  rw [er, ed]
  refine qx_appB (by omega) ⟨n256, qx_appB (by omega) ⟨hv, ?_⟩⟩
  rw [qx_g (a := PM), hM, pk_sub hm]
  rw [e1] at h
  exact qx_we hE hE2 hF (by omega) (by omega) h
theorem qx_wp9 {post : St2 → Prop} {pc pl pm pd : Nat → Nat} (hE : 2 ≤ E) (hE2 : E ≤ 255) (hF2 : 2 ≤ F) (hF : F ≤ 15) (hK3 : 3 ≤ K) (hn : n ≤ 32)
    (ht : qx_tab F E K T n S PC PL PM PD pc pl pm pd 0) :
    ∀ g p s, p ≤ n → pc p < 1000000 → n - p < g → 3 * s ≤ p → ∀ bl B, bl + pc p ≤ 64 → post (nI F, nI E, nI K, nI T, nI n, nI (qw S F E K pl pm pd g p bl B).1, nI ol, rl, cu, S, (qw S F E K pl pm pd g p bl B).2, O, R, PC, PL, PM, PD) →
      wX_writePlan_9 post g (nI p) (nI s) (nI F) (nI E) (nI K) (nI T) (nI n) (nI bl) (nI ol) rl cu S B O R PC PL PM PD := by
  intro g
  induction g with
  | zero => intro p s hp hc hg; omega
  | succ g ih =>
    intro p s hp hc hg hs bl B hb h
    obtain ⟨h1, h2, h3, h4, hP⟩ := ht p (by omega) hp
    have hv : vp_in (nI p) 33 := vp_in_nI (by omega) (by decide)
    refine br_f (nI_ge (b := 33) (by omega) (by decide)) ⟨hv, nm_r (e' := nI (pm p)) (by rw [qx_g (a := PM), h3]) ?_⟩
    rw [qw] at h
    rcases hP.2.2.2.2 with q5 | ⟨g1, g2, g3, g4, _⟩ | ⟨g1, g2, g3, g4, _⟩
    · omega
    · rw [if_pos g1] at h
      refine qx_wl hE hE2 hF (by omega) h2 h3 (Or.inl g1) (by rw [g2, ← g4]; exact hb) (br_t (by rw [g1]; rfl) h)
    · have k1 := g1.1
      have k2 := g1.2.1
      have hd := qd_Dle S (p + pl p) (pm p)
      rw [if_neg (by omega)] at h
      unfold qd_cost at g3
      refine qx_wl hE hE2 hF (by omega) h2 h3 (Or.inr ⟨k1, by omega⟩) (by omega) (br_f (nI_ne0 (by omega) (by omega)) ?_)
      refine qx_wm hE hE2 hF (by omega) h3 h4 k1 (by omega) (by omega) (by omega) ⟨hv, nm_r (e' := nI (p + pl p + pm p)) ?_ (nm_r (nI_1 s) ?_)⟩
      · rw [qx_g (a := PL), h2, nI_add, nI_add]
        exact congrArg nI (by omega)
      · exact ih _ (s + 1) k2 (by omega) (by omega) (by omega) _ _ (by omega) h
theorem qx_wp {post : St2 → Prop} {pc pl pm pd : Nat → Nat} (hE : 2 ≤ E) (hE2 : E ≤ 255) (hF2 : 2 ≤ F) (hF : F ≤ 15) (hK3 : 3 ≤ K) (hn : n ≤ 32)
    (ht : qx_tab F E K T n S PC PL PM PD pc pl pm pd 0) (hc : pc 0 ≤ 64)
    (h : post (nI F, nI E, nI K, nI T, nI n, nI (qw S F E K pl pm pd 33 0 0 B).1, nI ol, rl, cu, S, (qw S F E K pl pm pd 33 0 0 B).2, O, R, PC, PL, PM, PD)) : wpX_writePlan post (nI F, nI E, nI K, nI T, nI n, nI bl, nI ol, rl, cu, S, B, O, R, PC, PL, PM, PD) :=
  ⟨33, qx_wp9 hE hE2 hF2 hF hK3 hn ht 33 0 0 (by omega) (by omega) (by omega) (by omega) 0 B (by omega) h⟩
end
end
section
/-! the component's reader against the pure reader -/
theorem qr_nn {c v : Nat} (h : c ≠ 0) (h8 : c ≤ 8) : ¬ (0 : Int32) ≤ qr_ans c v := Int32.not_le.mpr (qr_ans_neg h h8)
section
variable {F E K T n bl ol : Nat} {rl cu : Int32} {S B O R PC PL PM PD : Nat → Int32}
theorem qx_rc0 {post : Int32 → St2 → Prop} {a : Nat} (ha : a < bl) (hb : bl ≤ 64) (h : post (B a) (nI F, nI E, nI K, nI T, nI n, nI bl, nI ol, rl, nI (a + 1), S, B, O, R, PC, PL, PM, PD)) : wpX_readCell post (nI F, nI E, nI K, nI T, nI n, nI bl, nI ol, rl, nI a, S, B, O, R, PC, PL, PM, PD) :=
  br_t (nI_lt ha (by omega)) ⟨vp_in_nI (by omega) (by decide), nm_r (qx_g (a := B)) (nm_r (nI_1 a) h)⟩
theorem qx_rc {post : Int32 → St2 → Prop} {a : Nat} (hB : qd_by B) (ha : a < bl) (hb : bl ≤ 64) (h : post (nI (qr_c B a)) (nI F, nI E, nI K, nI T, nI n, nI bl, nI ol, rl, nI (a + 1), S, B, O, R, PC, PL, PM, PD)) : wpX_readCell post (nI F, nI E, nI K, nI T, nI n, nI bl, nI ol, rl, nI a, S, B, O, R, PC, PL, PM, PD) := by
  rw [← (qr_ce hB a).1] at h
  exact qx_rc0 ha hb h
theorem qx_rn14 {post : Int32 → St2 → Prop} (hB : qd_by B) (hb : bl ≤ 64) (hE2 : E ≤ 255) :
    ∀ g a x s, a + g = bl → s ≤ a → x + 256 * g < 1000000 → post (qr_ans (qr_num B E g a x).1 (qr_num B E g a x).2.1) (nI F, nI E, nI K, nI T, nI n, nI bl, nI ol, rl, nI (qr_num B E g a x).2.2, S, B, O, R, PC, PL, PM, PD) →
      ∀ f, g < f → wX_readNumber_14 post f (nI x) (nI s) (nI F) (nI E) (nI K) (nI T) (nI n) (nI bl) (nI ol) rl (nI a) S B O R PC PL PM PD := by
  intro g
  induction g with
  | zero =>
    intro a x s ha hs hx h f hf
    obtain ⟨f, rfl⟩ : ∃ f', f = f' + 1 := ⟨f - 1, by omega⟩
    exact br_f (nI_nlt (by omega) (by omega)) (br_f (nI_nlt (by omega) (by omega)) h)
  | succ g ih =>
    intro a x s ha hs hx h f hf
    obtain ⟨f, rfl⟩ : ∃ f', f = f' + 1 := ⟨f - 1, by omega⟩
    have hc := (qr_ce hB a).2
    refine br_f (nI_nlt (by omega) (by omega)) (br_t (nI_lt (by omega) (by omega)) (qx_rc hB (by omega) hb ?_))
    rw [qr_num] at h
    by_cases c1 : E < qr_c B a
    · rw [if_pos c1] at h
      exact br_f (nI_ge c1 (by omega)) h
    · rw [if_neg c1] at h
      refine br_t (nI_le (by omega) (by omega)) (nm_r (nI_add x _) ?_)
      by_cases c2 : qr_c B a < E
      · rw [if_pos c2] at h
        exact br_f (nI_ge c2 (by omega)) h
      · rw [if_neg c2] at h
        exact br_t (nI_le (by omega) (by omega)) (nm_r (nI_1 s) (ih (a + 1) (x + qr_c B a) (s + 1) (by omega) (by omega) (by omega) h f (by omega)))
theorem qx_rn {post : Int32 → St2 → Prop} {a x : Nat} (hB : qd_by B) (hb : bl ≤ 64) (hE2 : E ≤ 255) (hF : F ≤ 15) (ha : a ≤ bl) (hx : x ≤ 255)
    (h : post (qr_ans (qr_number B bl F E a x).1 (qr_number B bl F E a x).2.1) (nI F, nI E, nI K, nI T, nI n, nI bl, nI ol, rl, nI (qr_number B bl F E a x).2.2, S, B, O, R, PC, PL, PM, PD)) : wpX_readNumber post (nI F, nI E, nI K, nI T, nI n, nI bl, nI ol, rl, nI a, S, B, O, R, PC, PL, PM, PD) (nI x) := by
  unfold qr_number at h
  by_cases c : x < F
  · rw [if_pos c] at h
    exact br_f (nI_ge c (by omega)) h
  · rw [if_neg c] at h
    exact br_t (nI_le (by omega) (by omega)) ⟨bl + 1, qx_rn14 hB hb hE2 (bl - a) a x 0 (by omega) (by omega) (by omega) h (bl + 1) (by omega)⟩
theorem qx_appR {post : St2 → Prop} {len : Nat} {c : Int32} (hl : len < 32) (h : post (nI F, nI E, nI K, nI T, nI n, nI bl, nI ol, nI (len + 1), cu, S, B, O, upd R len c, PC, PL, PM, PD)) : wpX_appendToResult post (nI F, nI E, nI K, nI T, nI n, nI bl, nI ol, nI len, cu, S, B, O, R, PC, PL, PM, PD) c :=
  br_f (nI_ge (b := 32) hl (by decide)) ⟨vp_in_nI hl (by decide), nm_r qx_u (nm_r (nI_1 len) h)⟩
theorem qx_rl32 {post : Int32 → St2 → Prop} {l a len : Nat} (hb : bl ≤ 64) (ha : a + l ≤ bl) (hl : len + l ≤ 32)
    (h : post (nI l) (nI F, nI E, nI K, nI T, nI n, nI bl, nI ol, nI (len + l), nI (a + l), S, B, O, qd_fill R len (fun i => B (a + i)) l, PC, PL, PM, PD)) :
    ∀ k i, i + k = l → ∀ f, k < f → wX_readLiterals_32 post (nI l) f (nI i) (nI F) (nI E) (nI K) (nI T) (nI n) (nI bl) (nI ol) (nI (len + i)) (nI (a + i)) S B O (qd_fill R len (fun i => B (a + i)) i) PC PL PM PD := by
  intro k
  induction k with
  | zero =>
    intro i hi f hf
    obtain ⟨f, rfl⟩ : ∃ f', f = f' + 1 := ⟨f - 1, by omega⟩
    have e : i = l := by omega
    rw [e]
    exact br_t (nI_le (by omega) (by omega)) h
  | succ k ih =>
    intro i hi f hf
    obtain ⟨f, rfl⟩ : ∃ f', f = f' + 1 := ⟨f - 1, by omega⟩
    refine br_f (nI_ge (by omega) (by omega)) (qx_rc0 (by omega) hb (qx_appR (by omega) (nm_r (nI_1 i) ?_)))
    have key := ih (i + 1) (by omega) f (by omega)
    rw [← qd_fill_s] at key
    exact key
theorem qx_rl {post : Int32 → St2 → Prop} {l a len : Nat} (hb : bl ≤ 64) (ha : a ≤ bl) (hl : len ≤ 32) (hx : l < 1000000)
    (h3 : bl - a < l → post (-3) (nI F, nI E, nI K, nI T, nI n, nI bl, nI ol, nI len, nI a, S, B, O, R, PC, PL, PM, PD)) (h6 : ¬ bl - a < l → 32 - len < l → post (-6) (nI F, nI E, nI K, nI T, nI n, nI bl, nI ol, nI len, nI a, S, B, O, R, PC, PL, PM, PD))
    (h : ¬ bl - a < l → ¬ 32 - len < l → post (nI l) (nI F, nI E, nI K, nI T, nI n, nI bl, nI ol, nI (len + l), nI (a + l), S, B, O, qd_fill R len (fun i => B (a + i)) l, PC, PL, PM, PD)) :
    wpX_readLiterals post (nI F, nI E, nI K, nI T, nI n, nI bl, nI ol, nI len, nI a, S, B, O, R, PC, PL, PM, PD) (nI l) := by
  have e1 : nI bl - nI a = nI (bl - a) := pk_sub ha
  have e2 : (32 : Int32) - nI len = nI (32 - len) := pk_sub (a := 32) hl
  by_cases c1 : bl - a < l
  · exact br_f (by rw [e1]; exact nI_ge c1 (by omega)) (h3 c1)
  · refine br_t (by rw [e1]; exact nI_le (by omega) (by omega)) ?_
    by_cases c2 : 32 - len < l
    · exact br_f (by rw [e2]; exact nI_ge c2 (by omega)) (h6 c1 c2)
    · have key := qx_rl32 (R := R) hb (by omega) (by omega) (h c1 c2) l 0 (by omega) (l + 1) (by omega)
      rw [qd_fill_0] at key
      exact br_t (by rw [e2]; exact nI_le (by omega) (by omega)) ⟨_, key⟩
theorem qx_rm94 {post : Int32 → St2 → Prop} {d m len : Nat} (hd : 1 ≤ d) (hd2 : d ≤ len) (hm : len + m ≤ 32) (h : post (nI m) (nI F, nI E, nI K, nI T, nI n, nI bl, nI ol, nI (len + m), cu, S, B, O, qr_copy R len d m, PC, PL, PM, PD)) :
    ∀ k i, i + k = m → ∀ f, k < f → wX_readMatch_94 post (nI d) (nI m) f (nI i) (nI F) (nI E) (nI K) (nI T) (nI n) (nI bl) (nI ol) (nI (len + i)) cu S B O (qr_copy R len d i) PC PL PM PD := by
  intro k
  induction k with
  | zero =>
    intro i hi f hf
    obtain ⟨f, rfl⟩ : ∃ f', f = f' + 1 := ⟨f - 1, by omega⟩
    have e : i = m := by omega
    rw [e]
    exact br_t (nI_le (by omega) (by omega)) h
  | succ k ih =>
    intro i hi f hf
    obtain ⟨f, rfl⟩ : ∃ f', f = f' + 1 := ⟨f - 1, by omega⟩
    have es : nI (len + i) - nI d = nI (len + i - d) := pk_sub (by omega)
    refine br_f (nI_ge (by omega) (by omega)) ⟨by rw [es]; exact vp_in_nI (by omega) (by decide), ?_⟩
    rw [es, nI_clamp (by omega)]
    exact qx_appR (by omega) (nm_r (nI_1 i) (ih (i + 1) (by omega) f (by omega)))
theorem qx_rm {post : Int32 → St2 → Prop} {k : Nat → Nat → (Nat → Int32) → qr_R} {a len mf : Nat} (hB : qd_by B) (hb : bl ≤ 64) (hE2 : E ≤ 255) (hF : F ≤ 15) (hK : K ≤ 6) (ha : a ≤ bl) (hl : len ≤ 32) (hf : mf ≤ 15)
    (hbad : ∀ c cu, c ≠ 0 → c ≤ 8 → qr_m1 B bl F E K k a len mf R = (c, len, R) → post (-nI c) (nI F, nI E, nI K, nI T, nI n, nI bl, nI ol, nI len, cu, S, B, O, R, PC, PL, PM, PD))
    (hok : ∀ m a' R', qr_m1 B bl F E K k a len mf R = k a' (len + m) R' → a + 2 ≤ a' → a' ≤ bl → len + m ≤ 32 → post (nI m) (nI F, nI E, nI K, nI T, nI n, nI bl, nI ol, nI (len + m), nI a', S, B, O, R', PC, PL, PM, PD)) :
    wpX_readMatch post (nI F, nI E, nI K, nI T, nI n, nI bl, nI ol, nI len, nI a, S, B, O, R, PC, PL, PM, PD) (nI mf) := by
  have e1 : nI bl - nI a = nI (bl - a) := pk_sub ha
  have h0 := (qr_ce hB a).2
  have h1 := (qr_ce hB (a + 1)).2
  by_cases c1 : bl - a < 2
  · exact br_f (by rw [e1]; exact nI_ge (b := 2) c1 (by decide)) (hbad 3 _ (by decide) (by decide) (by unfold qr_m1; rw [if_pos c1]))
  · refine br_t (by rw [e1]; exact nI_le (a := 2) (by omega) (by omega)) (qx_rc hB (by omega) hb (qx_rc hB (by omega) hb (nm_r (e' := nI (qr_c B a + 256 * qr_c B (a + 1))) ?_ ?_)))
    · rw [show (256 : Int32) * nI (qr_c B (a + 1)) = nI (256 * qr_c B (a + 1)) from pk_mul 256 _, nI_add]
    · by_cases c2 : qr_c B a + 256 * qr_c B (a + 1) = 0
      · rw [c2]
        exact br_t rfl (hbad 8 _ (by decide) (by decide) (by unfold qr_m1; rw [if_neg c1, if_pos (Or.inl c2)]))
      · refine br_f (nI_ne0 (by omega) (by omega)) ?_
        by_cases c3 : len < qr_c B a + 256 * qr_c B (a + 1)
        · exact br_f (nI_ge c3 (by omega)) (hbad 8 _ (by decide) (by decide) (by unfold qr_m1; rw [if_neg c1, if_pos (Or.inr c3)]))
        · have em : qr_m1 B bl F E K k a len mf R = qr_m2 K k len (qr_c B a + 256 * qr_c B (a + 1)) R (qr_number B bl F E (a + 2) mf) := by
            unfold qr_m1
            rw [if_neg c1, if_neg (by omega)]
          rw [em] at hbad hok
          have nb := qr_number_b (bl := bl) (F := F) (E := E) (a := a + 2) (x := mf) hB (by omega) hb
          refine br_t (nI_le (by omega) (by omega)) (qx_rn hB hb hE2 hF (by omega) (by omega) ?_)
          generalize qr_number B bl F E (a + 2) mf = nx at hbad hok nb
          obtain ⟨c, x, a'⟩ := nx
          dsimp only at nb ⊢
          by_cases c4 : c = 0
          · rw [c4, qr_ans0]
            have e2 : (32 : Int32) - nI len = nI (32 - len) := pk_sub (a := 32) hl
            refine br_t (nI_pos' (by omega)) (nm_r (nI_add K x) ?_)
            by_cases c5 : 32 - len < K + x
            · exact br_f (by rw [e2]; exact nI_ge c5 (by omega)) (hbad 6 _ (by decide) (by decide) (by unfold qr_m2; rw [if_neg (by dsimp only; omega), if_pos c5]))
            · have key := qx_rm94 (R := R) (cu := nI a') (d := qr_c B a + 256 * qr_c B (a + 1)) (m := K + x) (by omega) (by omega) (by omega) (hok (K + x) a' _ (by unfold qr_m2; rw [if_neg (by dsimp only; omega), if_neg c5]) nb.2.1 nb.2.2.1 (by omega)) (K + x) 0 (by omega) (K + x + 1) (by omega)
              exact br_t (by rw [e2]; exact nI_le (by omega) (by omega)) ⟨_, key⟩
          · rw [qr_ansn c4]
            refine br_f ?_ (hbad c _ c4 (by omega) (by unfold qr_m2; rw [if_pos c4]))
            have := qr_nn (v := 0) c4 (by omega)
            rw [qr_ansn c4] at this
            exact this
theorem qx_rb14 {post : Int32 → St2 → Prop} (hB : qd_by B) (hb : bl ≤ 64) (hE2 : E ≤ 255) (hF : F ≤ 15) (hK : K ≤ 6) (hT8 : T ≤ 8) :
    ∀ g s a len R x1, g + s = bl + 1 → s ≤ a → a ≤ bl → len ≤ 32 → ((x1 = (0 : Int32) ∧ s = 0) ∨ (x1 = 1 ∧ 0 < s)) →
      (∀ W, qr_read B bl F E K T g s a len R = W → ∀ cu, post (qr_ans W.1 W.2.1) (nI F, nI E, nI K, nI T, nI n, nI bl, nI ol, nI W.2.1, cu, S, B, O, W.2.2, PC, PL, PM, PD)) →
      ∀ f, g < f → wX_readBlock_14 post f x1 (nI s) (nI F) (nI E) (nI K) (nI T) (nI n) (nI bl) (nI ol) (nI len) (nI a) S B O R PC PL PM PD := by
  intro g
  induction g with
  | zero => intro s a len R x1 hg hs ha hl hx h f hf; omega
  | succ g ih =>
    intro s a len R x1 hg hs ha hl hx h f hf
    obtain ⟨f, rfl⟩ : ∃ f', f = f' + 1 := ⟨f - 1, by omega⟩
    refine br_f (nI_nlt (by omega) (by omega)) ?_
    by_cases c0 : bl ≤ a
    · exact br_f (nI_nlt c0 (by omega)) (h (3, len, R) (by rw [qr_read, if_pos c0]) _)
    · have hc := (qr_ce hB a).2
      refine br_t (nI_lt (by omega) (by omega)) (qx_rc hB (by omega) hb ⟨by decide, nm_r (pk_div (d := 16) (by omega) (by omega) (by omega)) ⟨by decide, nm_r (pk_rem (d := 16) (by omega) (by omega) (by omega)) ?_⟩⟩)
      by_cases c1 : F < qr_c B a / 16
      · exact br_t (nI_lt c1 (by omega)) (h (4, len, R) (by rw [qr_read, if_neg c0, if_pos (Or.inl c1)]) _)
      · refine br_f (nI_nlt (by omega) (by omega)) ?_
        by_cases c2 : F < qr_c B a % 16
        · exact br_f (nI_ge c2 (by omega)) (h (4, len, R) (by rw [qr_read, if_neg c0, if_pos (Or.inr c2)]) _)
        · have e0 : qr_read B bl F E K T (g + 1) s a len R = qr_l1 B bl F E K T (fun a' len' res' => qr_read B bl F E K T g (s + 1) a' len' res') s len (qr_c B a % 16) R (qr_number B bl F E (a + 1) (qr_c B a / 16)) := by
            rw [qr_read, if_neg c0, if_neg (by omega)]
          rw [e0] at h
          have nb := qr_number_b (bl := bl) (F := F) (E := E) (a := a + 1) (x := qr_c B a / 16) hB (by omega) hb
          refine br_t (nI_le (by omega) (by omega)) (qx_rn hB hb hE2 hF (by omega) (by omega) ?_)
          generalize qr_number B bl F E (a + 1) (qr_c B a / 16) = nl at h nb
          obtain ⟨c, l, a2⟩ := nl
          dsimp only at nb ⊢
          by_cases c3 : c = 0
          · subst c3
            rw [qr_ans0]
            refine br_t (nI_pos' (by omega)) (qx_rl hb nb.2.2.1 hl (by omega) (fun c4 => ?_) (fun c4 c5 => ?_) (fun c4 c5 => ?_))
            · exact br_f (by decide) (h (3, len, R) (by unfold qr_l1; rw [if_neg (by dsimp only; omega), if_pos c4]) _)
            · exact br_f (by decide) (h (6, len, R) (by unfold qr_l1; rw [if_neg (by dsimp only; omega), if_neg c4, if_pos c5]) _)
            · refine br_t (nI_pos' (by omega)) ?_
              by_cases c6 : bl ≤ a2 + l
              · refine br_f (nI_nlt c6 (by omega)) ?_
                have hbad : (qr_c B a % 16 ≠ 0 ∨ (0 < s ∧ l < T)) → qr_l1 B bl F E K T (fun a' len' res' => qr_read B bl F E K T g (s + 1) a' len' res') s len (qr_c B a % 16) R (0, l, a2) = (7, len + l, qd_fill R len (fun i => B (a2 + i)) l) := by
                  intro z
                  unfold qr_l1
                  rw [if_neg (by dsimp only; omega), if_neg c4, if_neg c5, if_pos c6, if_pos z]
                have hgood : ¬ (qr_c B a % 16 ≠ 0 ∨ (0 < s ∧ l < T)) → qr_l1 B bl F E K T (fun a' len' res' => qr_read B bl F E K T g (s + 1) a' len' res') s len (qr_c B a % 16) R (0, l, a2) = (0, len + l, qd_fill R len (fun i => B (a2 + i)) l) := by
                  intro z
                  unfold qr_l1
                  rw [if_neg (by dsimp only; omega), if_neg c4, if_neg c5, if_pos c6, if_neg z]
                have w135 : ∀ z0 : Int32, ((z0 = 0 → ¬ (0 < s ∧ l < T)) ∧ (¬ z0 = 0 → (0 < s ∧ l < T))) → wX_readBlock_135 post (nI (qr_c B a % 16)) z0 (nI F) (nI E) (nI K) (nI T) (nI n) (nI bl) (nI ol) (nI (len + l)) (nI (a2 + l)) S B O (qd_fill R len (fun i => B (a2 + i)) l) PC PL PM PD := by
                  intro z0 hz
                  by_cases c7 : qr_c B a % 16 = 0
                  · rw [c7]
                    refine br_t rfl ?_
                    by_cases c8 : z0 = 0
                    · exact br_t c8 (h _ (hgood (fun z => z.elim (fun y => y c7) (hz.1 c8))) _)
                    · exact br_f c8 (h _ (hbad (Or.inr (hz.2 c8))) _)
                  · exact br_f (nI_ne0 (by omega) (by omega)) (h _ (hbad (Or.inl c7)) _)
                rcases hx with ⟨x0, s0⟩ | ⟨x1', s1⟩
                · refine br_t x0 ?_
                  unfold wX_readBlock_134
                  exact w135 0 ⟨fun _ => by omega, fun z => absurd rfl z⟩
                · refine br_f (by rw [x1']; decide) ?_
                  by_cases c7 : T ≤ l
                  · refine br_t (nI_le c7 (by omega)) ?_
                    unfold wX_readBlock_134
                    exact w135 0 ⟨fun _ => by omega, fun z => absurd rfl z⟩
                  · exact br_f (nI_ge (by omega) (by omega)) (w135 1 ⟨fun z => absurd z (by decide), fun _ => by omega⟩)
              · have em : qr_l1 B bl F E K T (fun a' len' res' => qr_read B bl F E K T g (s + 1) a' len' res') s len (qr_c B a % 16) R (0, l, a2) =
                    qr_m1 B bl F E K (fun a' len' res' => qr_read B bl F E K T g (s + 1) a' len' res') (a2 + l) (len + l) (qr_c B a % 16) (qd_fill R len (fun i => B (a2 + i)) l) := by
                  unfold qr_l1
                  rw [if_neg (by dsimp only; omega), if_neg c4, if_neg c5, if_neg c6]
                rw [em] at h
                refine br_t (nI_lt (by omega) (by omega)) (qx_rm (k := fun a' len' res' => qr_read B bl F E K T g (s + 1) a' len' res') (a := a2 + l) (len := len + l) (mf := qr_c B a % 16) (R := qd_fill R len (fun i => B (a2 + i)) l) hB hb hE2 hF hK (by omega) (by omega) (by omega) (fun c cu hc0 hc8 e => ?_) (fun m a' R' e h1 h2 h3 => ?_))
                · have t := h _ e cu
                  dsimp only at t
                  rw [qr_ansn hc0] at t
                  exact br_f (Int32.not_le.mpr (qr_neg hc0 hc8)) t
                · rw [e] at h
                  exact br_t (nI_pos' (by omega)) (nm_r (nI_1 s) (ih (s + 1) a' (len + l + m) R' 1 (by omega) (by omega) (by omega) (by omega) (Or.inr ⟨rfl, by omega⟩) h f (by omega)))
          · refine br_f (qr_nn c3 (by omega)) ?_
            have t := h (c, len, R) (by unfold qr_l1; rw [if_pos c3]) (nI a2)
            dsimp only at t
            rw [qr_ansn c3] at t ⊢
            exact t
theorem qx_rb {post : Int32 → St2 → Prop} (hB : qd_by B) (hb : bl ≤ 64) (hE2 : E ≤ 255) (hF : F ≤ 15) (hK : K ≤ 6) (hT8 : T ≤ 8)
    (h : ∀ W, qr_read B bl F E K T (bl + 1) 0 0 0 R = W → ∀ cu, post (qr_ans W.1 W.2.1) (nI F, nI E, nI K, nI T, nI n, nI bl, nI ol, nI W.2.1, cu, S, B, O, W.2.2, PC, PL, PM, PD)) : wpX_readBlock post (nI F, nI E, nI K, nI T, nI n, nI bl, nI ol, rl, cu, S, B, O, R, PC, PL, PM, PD) :=
  ⟨bl + 2, qx_rb14 hB hb hE2 hF hK hT8 (bl + 1) 0 0 0 R 0 (by omega) (by omega) (by omega) (by omega) (Or.inl ⟨rfl, rfl⟩) h (bl + 2) (by omega)⟩
theorem qx_re15 {post : Int32 → Prop} {len : Nat} (hl : len ≤ 32) (h1 : (∀ j, j < len → R j = S j) → post 1) (h0 : ¬ (∀ j, j < len → R j = S j) → post 0) :
    ∀ k i, i + k = len → (∀ j, j < i → R j = S j) → ∀ f, k < f → wX_resultEqualsSource_15 post (nI F) (nI E) (nI K) (nI T) (nI n) (nI bl) (nI ol) (nI len) cu S B O R PC PL PM PD f (nI i) := by
  intro k
  induction k with
  | zero =>
    intro i hi hr f hf
    obtain ⟨f, rfl⟩ : ∃ f', f = f' + 1 := ⟨f - 1, by omega⟩
    exact br_t (nI_le (by omega) (by omega)) (h1 (fun j hj => hr j (by omega)))
  | succ k ih =>
    intro i hi hr f hf
    obtain ⟨f, rfl⟩ : ∃ f', f = f' + 1 := ⟨f - 1, by omega⟩
    refine br_f (nI_ge (by omega) (by omega)) ⟨vp_in_nI (by omega) (by decide), vp_in_nI (by omega) (by decide), ?_⟩
    rw [qx_g (a := R), qx_g (a := S)]
    by_cases c : R i = S i
    · exact br_t c (nm_r (nI_1 i) (ih (i + 1) (by omega) (lt_s hr c) f (by omega)))
    · exact br_f c (h0 (fun z => c (z i (by omega))))
theorem qx_re {post : Int32 → Prop} {len : Nat} (hl : len ≤ 32) (hn : n ≤ 32) (h1 : len = n → (∀ j, j < len → R j = S j) → post 1) (h0 : ¬ (len = n ∧ ∀ j, j < len → R j = S j) → post 0) :
    wpX_resultEqualsSource post (nI F, nI E, nI K, nI T, nI n, nI bl, nI ol, nI len, cu, S, B, O, R, PC, PL, PM, PD) := by
  by_cases c : len = n
  · exact br_t (by rw [c]) ⟨len + 1, qx_re15 hl (h1 c) (fun z => h0 (fun y => z y.2)) len 0 (by omega) lt_0 (len + 1) (by omega)⟩
  · exact br_f (fun z => c ((nI_eq (by omega) (by omega)).mp z)) (h0 (fun y => c y.1))
end
end
section
/-! the small methods of both sides -/
theorem qr_number_c {B : Nat → Int32} {bl F E a x : Nat} (hB : qd_by B) : (qr_number B bl F E a x).1 ≤ 8 := by
  unfold qr_number
  split
  · exact Nat.zero_le _
  · have := (qr_num_b (E := E) hB (bl - a) a x).1
    omega
theorem qr_read_b {B : Nat → Int32} {bl F E K T : Nat} (hB : qd_by B) : ∀ g s a len res, len ≤ 32 → qd_by res →
    (qr_read B bl F E K T g s a len res).1 ≤ 8 ∧ (qr_read B bl F E K T g s a len res).2.1 ≤ 32 ∧ qd_by (qr_read B bl F E K T g s a len res).2.2 := by
  intro g
  induction g with
  | zero => intro s a len res hl hr; exact ⟨(by decide : 3 ≤ 8), hl, hr⟩
  | succ g ih =>
    intro s a len res hl hr
    rw [qr_read]
    have n1 := qr_number_c (bl := bl) (F := F) (E := E) (a := a + 1) (x := qr_c B a / 16) hB
    generalize qr_number B bl F E (a + 1) (qr_c B a / 16) = nl at n1
    obtain ⟨c, l, a2⟩ := nl
    split
    · exact ⟨(by decide : 3 ≤ 8), hl, hr⟩
    split
    · exact ⟨(by decide : 4 ≤ 8), hl, hr⟩
    unfold qr_l1
    dsimp only at n1 ⊢
    have hfil : qd_by (qd_fill res len (fun i => B (a2 + i)) l) := qd_by_fill hr (fun i _ => hB _)
    split
    · exact ⟨n1, hl, hr⟩
    split
    · exact ⟨(by decide : 3 ≤ 8), hl, hr⟩
    split
    · exact ⟨(by decide : 6 ≤ 8), hl, hr⟩
    rename_i h6
    split
    · split
      · exact ⟨(by decide : 7 ≤ 8), (by omega : len + l ≤ 32), hfil⟩
      · exact ⟨(by decide : 0 ≤ 8), (by omega : len + l ≤ 32), hfil⟩
    unfold qr_m1
    have n2 := qr_number_c (bl := bl) (F := F) (E := E) (a := a2 + l + 2) (x := qr_c B a % 16) hB
    generalize qr_number B bl F E (a2 + l + 2) (qr_c B a % 16) = nx at n2
    obtain ⟨c', x, a'⟩ := nx
    split
    · exact ⟨(by decide : 3 ≤ 8), (by omega : len + l ≤ 32), hfil⟩
    split
    · exact ⟨(by decide : 8 ≤ 8), (by omega : len + l ≤ 32), hfil⟩
    unfold qr_m2
    dsimp only at n2 ⊢
    split
    · exact ⟨n2, (by omega : len + l ≤ 32), hfil⟩
    split
    · exact ⟨(by decide : 6 ≤ 8), (by omega : len + l ≤ 32), hfil⟩
    rename_i h7
    exact ih _ _ _ _ (by omega) (qr_by_copy hfil _)
section
variable {F E K T n bl ol : Nat} {rl cu : Int32} {S B O R PC PL PM PD : Nat → Int32}
theorem qx_appS {post : St2 → Prop} {c : Int32} (hn : n < 32) (h : post (nI F, nI E, nI K, nI T, nI (n + 1), nI bl, nI ol, rl, cu, upd S n c, B, O, R, PC, PL, PM, PD)) : wpX_appendToSource post (nI F, nI E, nI K, nI T, nI n, nI bl, nI ol, rl, cu, S, B, O, R, PC, PL, PM, PD) c :=
  br_f (nI_ge (b := 32) hn (by decide)) ⟨vp_in_nI hn (by decide), nm_r qx_u (nm_r (nI_1 n) h)⟩
theorem qx_rp23 {post : Int32 → St2 → Prop} {v : Int32} {m : Nat} (hm : n + m ≤ 32) (h : post (nI (n + m)) (nI F, nI E, nI K, nI T, nI (n + m), nI bl, nI ol, rl, cu, qd_fill S n (fun _ => v &&& 255) m, B, O, R, PC, PL, PM, PD)) :
    ∀ k i, i + k = m → ∀ f, k < f → wX_repeat_23 post v (nI m) f (nI i) (nI F) (nI E) (nI K) (nI T) (nI (n + i)) (nI bl) (nI ol) rl cu (qd_fill S n (fun _ => v &&& 255) i) B O R PC PL PM PD := by
  intro k
  induction k with
  | zero =>
    intro i hi f hf
    obtain ⟨f, rfl⟩ : ∃ f', f = f' + 1 := ⟨f - 1, by omega⟩
    have e : i = m := by omega
    rw [e]
    exact br_t (nI_le (by omega) (by omega)) h
  | succ k ih =>
    intro i hi f hf
    obtain ⟨f, rfl⟩ : ∃ f', f = f' + 1 := ⟨f - 1, by omega⟩
    have key := ih (i + 1) (by omega) f (by omega)
    rw [← qd_fill_s] at key
    exact br_f (nI_ge (by omega) (by omega)) (qx_appS (by omega) (nm_r (nI_1 i) key))
theorem qx_ec39 {post : Int32 → St2 → Prop} {d m : Nat} (hd : 1 ≤ d) (hd2 : d ≤ n) (hm : n + m ≤ 32) (h : post (nI (n + m)) (nI F, nI E, nI K, nI T, nI (n + m), nI bl, nI ol, rl, cu, qr_copy S n d m, B, O, R, PC, PL, PM, PD)) :
    ∀ k i, i + k = m → ∀ f, k < f → wX_echo_39 post (nI d) (nI m) f (nI i) (nI F) (nI E) (nI K) (nI T) (nI (n + i)) (nI bl) (nI ol) rl cu (qr_copy S n d i) B O R PC PL PM PD := by
  intro k
  induction k with
  | zero =>
    intro i hi f hf
    obtain ⟨f, rfl⟩ : ∃ f', f = f' + 1 := ⟨f - 1, by omega⟩
    have e : i = m := by omega
    rw [e]
    exact br_t (nI_le (by omega) (by omega)) h
  | succ k ih =>
    intro i hi f hf
    obtain ⟨f, rfl⟩ : ∃ f', f = f' + 1 := ⟨f - 1, by omega⟩
    have es : nI (n + i) - nI d = nI (n + i - d) := pk_sub (by omega)
    refine br_f (nI_ge (by omega) (by omega)) ⟨by rw [es]; exact vp_in_nI (by omega) (by decide), ?_⟩
    rw [es, nI_clamp (by omega)]
    exact qx_appS (by omega) (nm_r (nI_1 i) (ih (i + 1) (by omega) f (by omega)))
theorem qi_f0 {a g : Nat → Int32} {i : Nat} (h : i < 2 ^ 31 := by omega) : upd (qd_fill a 0 g i) (nI i).toNatClampNeg (g (nI i).toNatClampNeg) = qd_fill a 0 g (i + 1) := by
  have := qd_fill_s a 0 g i
  rw [Nat.zero_add] at this
  rw [nI_clamp h]
  exact this
theorem qx_ad2 {post : Int32 → St2 → Prop} (ho : ol ≤ 32) (h : post (nI ol) (nI F, nI E, nI K, nI T, nI ol, nI bl, nI ol, rl, cu, qd_fill S 0 O ol, B, O, R, PC, PL, PM, PD)) :
    ∀ k i, i + k = ol → ∀ f, k < f → wX_adopt_2 post (nI F) (nI E) (nI K) (nI T) (nI n) (nI bl) (nI ol) rl cu f (nI i) (qd_fill S 0 O i) B O R PC PL PM PD := by
  intro k
  induction k with
  | zero =>
    intro i hi f hf
    obtain ⟨f, rfl⟩ : ∃ f', f = f' + 1 := ⟨f - 1, by omega⟩
    have e : i = ol := by omega
    rw [e]
    exact br_t (nI_le (by omega) (by omega)) h
  | succ k ih =>
    intro i hi f hf
    obtain ⟨f, rfl⟩ : ∃ f', f = f' + 1 := ⟨f - 1, by omega⟩
    have hv : vp_in (nI i) 32 := vp_in_nI (by omega) (by decide)
    exact br_f (nI_ge (by omega) (by omega)) ⟨hv, hv, nm_r qi_f0 (nm_r (nI_1 i) (ih (i + 1) (by omega) f (by omega)))⟩
theorem qx_de13 {post : Int32 → St2 → Prop} {len : Nat} (ho : len ≤ 32) (h : post (nI len) (nI F, nI E, nI K, nI T, nI n, nI bl, nI len, nI len, cu, S, B, qd_fill O 0 R len, R, PC, PL, PM, PD)) :
    ∀ k i, i + k = len → ∀ f, k < f → wX_decode_13 post (nI F) (nI E) (nI K) (nI T) (nI n) (nI bl) (nI ol) (nI len) cu f (nI i) S B (qd_fill O 0 R i) R PC PL PM PD := by
  intro k
  induction k with
  | zero =>
    intro i hi f hf
    obtain ⟨f, rfl⟩ : ∃ f', f = f' + 1 := ⟨f - 1, by omega⟩
    have e : i = len := by omega
    rw [e]
    exact br_t (nI_le (by omega) (by omega)) h
  | succ k ih =>
    intro i hi f hf
    obtain ⟨f, rfl⟩ : ∃ f', f = f' + 1 := ⟨f - 1, by omega⟩
    have hv : vp_in (nI i) 32 := vp_in_nI (by omega) (by decide)
    exact br_f (nI_ge (by omega) (by omega)) ⟨hv, hv, nm_r qi_f0 (nm_r (nI_1 i) (ih (i + 1) (by omega) f (by omega)))⟩
end
/-! the public methods of both sides, each with a general post -/
section
variable {F E K T n bl ol : Nat} {rl cu : Int32} {S B O R PC PL PM PD : Nat → Int32}
theorem qi_32 (h : n ≤ 32) : (32 : Int32) - nI n = nI (32 - n) := pk_sub (a := 32) h
theorem qx_rp {post : Int32 → St2 → Prop} {v : Int32} {m : Nat} (h1 : 1 ≤ m) (hm : n + m ≤ 32) (h : post (nI (n + m)) (nI F, nI E, nI K, nI T, nI (n + m), nI bl, nI ol, rl, cu, qd_fill S n (fun _ => v &&& 255) m, B, O, R, PC, PL, PM, PD)) : wpX_repeat post (nI F, nI E, nI K, nI T, nI n, nI bl, nI ol, rl, cu, S, B, O, R, PC, PL, PM, PD) v (nI m) := by
  have key := qx_rp23 hm h m 0 (by omega) (m + 1) (by omega)
  rw [qd_fill_0] at key
  exact br_t (nI_le (a := 1) h1 (by omega)) (br_t (by rw [qi_32 (by omega)]; exact nI_le (by omega) (by omega)) ⟨_, key⟩)
theorem qx_rpF {post : Int32 → St2 → Prop} {v : Int32} {m : Nat} (h1 : 1 ≤ m) (hj : m < 2 ^ 31) (hn : n ≤ 32) (hm : 32 < n + m) (h : post (-1) (nI F, nI E, nI K, nI T, nI n, nI bl, nI ol, rl, cu, S, B, O, R, PC, PL, PM, PD)) : wpX_repeat post (nI F, nI E, nI K, nI T, nI n, nI bl, nI ol, rl, cu, S, B, O, R, PC, PL, PM, PD) v (nI m) :=
  br_t (nI_le (a := 1) h1 hj) (br_f (by rw [qi_32 hn]; exact nI_ge (by omega) hj) h)
theorem qx_ec {post : Int32 → St2 → Prop} {d m : Nat} (hd : 1 ≤ d) (hd2 : d ≤ n) (h1 : 1 ≤ m) (hm : n + m ≤ 32) (h : post (nI (n + m)) (nI F, nI E, nI K, nI T, nI (n + m), nI bl, nI ol, rl, cu, qr_copy S n d m, B, O, R, PC, PL, PM, PD)) : wpX_echo post (nI F, nI E, nI K, nI T, nI n, nI bl, nI ol, rl, cu, S, B, O, R, PC, PL, PM, PD) (nI d) (nI m) :=
  br_f (nI_nlt (b := 1) hd (by omega)) (br_t (nI_le hd2 (by omega)) (br_t (nI_le (a := 1) h1 (by omega)) (br_t (by rw [qi_32 (by omega)]; exact nI_le (by omega) (by omega)) ⟨m + 1, qx_ec39 hd hd2 hm h m 0 (by omega) (m + 1) (by omega)⟩)))
theorem qx_ecF {post : Int32 → St2 → Prop} {d m : Nat} (hd : 1 ≤ d) (hd2 : d ≤ n) (hn : n ≤ 32) (h1 : 1 ≤ m) (hj : m < 2 ^ 31) (hm : 32 < n + m) (h : post (-1) (nI F, nI E, nI K, nI T, nI n, nI bl, nI ol, rl, cu, S, B, O, R, PC, PL, PM, PD)) : wpX_echo post (nI F, nI E, nI K, nI T, nI n, nI bl, nI ol, rl, cu, S, B, O, R, PC, PL, PM, PD) (nI d) (nI m) :=
  br_f (nI_nlt (b := 1) hd (by omega)) (br_t (nI_le hd2 (by omega)) (br_t (nI_le (a := 1) h1 hj) (br_f (by rw [qi_32 hn]; exact nI_ge (by omega) hj) h)))
theorem qx_ln {post : Int32 → Prop} {v : Int32} (h0 : v = 0 → post (nI n)) (h1 : v = 1 → post (nI bl)) (h2 : v = 2 → post (nI ol)) (h3 : ¬ v = 0 → ¬ v = 1 → ¬ v = 2 → post (-2)) : wpX_lengthOf post (nI F, nI E, nI K, nI T, nI n, nI bl, nI ol, rl, cu, S, B, O, R, PC, PL, PM, PD) v :=
  br_c h0 (fun a => br_c h1 (fun b => br_c h2 (fun c => h3 a b c)))
theorem qi_01 : ¬ (0 : Int32) = 1 := by decide
theorem qi_02 : ¬ (0 : Int32) = 2 := by decide
theorem qi_10 : ¬ (1 : Int32) = 0 := by decide
theorem qi_12 : ¬ (1 : Int32) = 2 := by decide
theorem qi_20 : ¬ (2 : Int32) = 0 := by decide
theorem qi_21 : ¬ (2 : Int32) = 1 := by decide
theorem qx_c0 {post : Int32 → St2 → Prop} {j : Nat} (hn : n ≤ 32) (hj : j < 2 ^ 31) (h1 : j ≤ n → post (nI j) (nI F, nI E, nI K, nI T, nI j, nI bl, nI ol, rl, cu, S, B, O, R, PC, PL, PM, PD)) (h2 : ¬ j ≤ n → post (-2) (nI F, nI E, nI K, nI T, nI n, nI bl, nI ol, rl, cu, S, B, O, R, PC, PL, PM, PD)) : wpX_cut post (nI F, nI E, nI K, nI T, nI n, nI bl, nI ol, rl, cu, S, B, O, R, PC, PL, PM, PD) 0 (nI j) := by
  refine br_t rfl ?_
  unfold wX_cut_12
  refine br_f (nI_pos hj) (qx_ln (fun _ => ?_) (fun z => absurd z qi_01) (fun z => absurd z qi_02) (fun z => absurd rfl z))
  by_cases c : j ≤ n
  · exact br_t (nI_le c (by omega)) (br_t rfl (h1 c))
  · exact br_f (nI_ge (by omega) hj) (h2 c)
theorem qx_c1 {post : Int32 → St2 → Prop} {j : Nat} (hn : bl ≤ 64) (hj : j < 2 ^ 31) (h1 : j ≤ bl → post (nI j) (nI F, nI E, nI K, nI T, nI n, nI j, nI ol, rl, cu, S, B, O, R, PC, PL, PM, PD)) (h2 : ¬ j ≤ bl → post (-2) (nI F, nI E, nI K, nI T, nI n, nI bl, nI ol, rl, cu, S, B, O, R, PC, PL, PM, PD)) : wpX_cut post (nI F, nI E, nI K, nI T, nI n, nI bl, nI ol, rl, cu, S, B, O, R, PC, PL, PM, PD) 1 (nI j) := by
  refine br_f qi_10 (br_t rfl ?_)
  unfold wX_cut_12
  refine br_f (nI_pos hj) (qx_ln (fun z => absurd z qi_10) (fun _ => ?_) (fun z => absurd z qi_12) (fun _ z => absurd rfl z))
  by_cases c : j ≤ bl
  · exact br_t (nI_le c (by omega)) (br_f qi_10 (h1 c))
  · exact br_f (nI_ge (by omega) hj) (h2 c)
theorem qx_cn {post : Int32 → St2 → Prop} {v w : Int32} (hw : w < 0) (h : post (-2) (nI F, nI E, nI K, nI T, nI n, nI bl, nI ol, rl, cu, S, B, O, R, PC, PL, PM, PD)) : wpX_cut post (nI F, nI E, nI K, nI T, nI n, nI bl, nI ol, rl, cu, S, B, O, R, PC, PL, PM, PD) v w := by
  refine br_c (fun _ => ?_) (fun _ => br_c (fun _ => ?_) (fun _ => h))
  · unfold wX_cut_12; exact br_t hw h
  · unfold wX_cut_12; exact br_t hw h
theorem qx_ad {post : Int32 → St2 → Prop} (ho : ol ≤ 32) (h : post (nI ol) (nI F, nI E, nI K, nI T, nI ol, nI bl, nI ol, rl, cu, qd_fill S 0 O ol, B, O, R, PC, PL, PM, PD)) : wpX_adopt post (nI F, nI E, nI K, nI T, nI n, nI bl, nI ol, rl, cu, S, B, O, R, PC, PL, PM, PD) := by
  have key := qx_ad2 (n := n) ho h ol 0 (by omega) (ol + 1) (by omega)
  rw [qd_fill_0] at key
  exact ⟨_, key⟩
theorem qx_de {post : Int32 → St2 → Prop} (hB : qd_by B) (hR : qd_by R) (hb : bl ≤ 64) (hE2 : E ≤ 255) (hF : F ≤ 15) (hK : K ≤ 6) (hT8 : T ≤ 8) {c len : Nat} {R' : Nat → Int32}
    (hW : qr_read B bl F E K T (bl + 1) 0 0 0 R = (c, len, R')) (h0 : c = 0 → ∀ cu, post (nI len) (nI F, nI E, nI K, nI T, nI n, nI bl, nI len, nI len, cu, S, B, qd_fill O 0 R' len, R', PC, PL, PM, PD)) (h1 : c ≠ 0 → ∀ cu, post (-nI c) (nI F, nI E, nI K, nI T, nI n, nI bl, nI ol, nI len, cu, S, B, O, R', PC, PL, PM, PD)) : wpX_decode post (nI F, nI E, nI K, nI T, nI n, nI bl, nI ol, rl, cu, S, B, O, R, PC, PL, PM, PD) := by
  have hw := qr_read_b (bl := bl) (F := F) (E := E) (K := K) (T := T) hB (bl + 1) 0 0 0 R (by omega) hR
  rw [hW] at hw
  obtain ⟨w1, w2, w3⟩ := hw
  dsimp only at w1 w2 w3
  unfold wpX_decode
  refine qx_rb hB hb hE2 hF hK hT8 (fun W e cu => ?_)
  rw [hW] at e
  subst e
  dsimp only
  by_cases c0 : c = 0
  · rw [c0, qr_ans0]
    have key := qx_de13 (ol := ol) (R := R') (O := O) w2 (h0 c0 cu) len 0 (by omega) (len + 1) (by omega)
    rw [qd_fill_0] at key
    exact br_t (nI_pos' (by omega)) ⟨_, key⟩
  · rw [qr_ansn c0]
    exact br_f (Int32.not_le.mpr (qr_neg c0 w1)) (h1 c0 cu)
def qi_eq (n : Nat) (S : Nat → Int32) (c len : Nat) (R : Nat → Int32) : Prop := c = 0 ∧ len = n ∧ ∀ j, j < n → R j = S j
theorem qx_su {post : Int32 → St2 → Prop} (hB : qd_by B) (hR : qd_by R) (hE : 2 ≤ E) (hE2 : E ≤ 255) (hF2 : 2 ≤ F) (hF : F ≤ 15) (hK3 : 3 ≤ K) (hK : K ≤ 6) (hT8 : T ≤ 8) (hn : n ≤ 32) (hb : bl ≤ 64) {c len : Nat} {R' : Nat → Int32}
    (hW : qr_read B bl F E K T (bl + 1) 0 0 0 R = (c, len, R')) (h0 : qi_eq n S c len R' → ∀ cu PC PL PM PD pc pl pm pd, qx_tab F E K T n S PC PL PM PD pc pl pm pd 0 → post (nI bl - nI (pc 0)) (nI F, nI E, nI K, nI T, nI n, nI bl, nI ol, nI len, cu, S, B, O, R', PC, PL, PM, PD))
    (h1 : ¬ qi_eq n S c len R' → ∀ cu, post (-128) (nI F, nI E, nI K, nI T, nI n, nI bl, nI ol, nI len, cu, S, B, O, R', PC, PL, PM, PD)) : wpX_surplus post (nI F, nI E, nI K, nI T, nI n, nI bl, nI ol, rl, cu, S, B, O, R, PC, PL, PM, PD) := by
  have hw := qr_read_b (bl := bl) (F := F) (E := E) (K := K) (T := T) hB (bl + 1) 0 0 0 R (by omega) hR
  rw [hW] at hw
  obtain ⟨w1, w2, w3⟩ := hw
  dsimp only at w1 w2 w3
  unfold wpX_surplus
  refine qx_rb hB hb hE2 hF hK hT8 (fun W e cu => ?_)
  rw [hW] at e
  subst e
  dsimp only
  by_cases c0 : c = 0
  · rw [c0, qr_ans0]
    refine br_t (nI_pos' (by omega)) (qx_re w2 hn (fun e1 e2 => ?_) (fun z => ?_))
    · refine br_f qi_10 (qx_ps hE hE2 hF2 hF hK3 hK hT8 hn (fun PC PL PM PD pc pl pm pd ht => ?_))
      have t := h0 ⟨c0, e1, fun j hj => e2 j (by omega)⟩ cu PC PL PM PD pc pl pm pd ht
      rw [← (ht 0 (Nat.le_refl _) (Nat.zero_le _)).1] at t
      exact t
    · exact br_t rfl (h1 (fun y => z ⟨y.2.1, fun j hj => y.2.2 j (by have := y.2.1; omega)⟩) cu)
  · rw [qr_ansn c0]
    exact br_f (Int32.not_le.mpr (qr_neg c0 w1)) (h1 (fun y => c0 y.1) cu)
theorem qx_en {post : Int32 → St2 → Prop} (hE : 2 ≤ E) (hE2 : E ≤ 255) (hF2 : 2 ≤ F) (hF : F ≤ 15) (hK3 : 3 ≤ K) (hK : K ≤ 6) (hT8 : T ≤ 8) (hn : n ≤ 32)
    (h : ∀ PC PL PM PD pc pl pm pd, qx_tab F E K T n S PC PL PM PD pc pl pm pd 0 → pc 0 ≤ 49 → post (nI (qw S F E K pl pm pd 33 0 0 B).1) (nI F, nI E, nI K, nI T, nI n, nI (qw S F E K pl pm pd 33 0 0 B).1, nI ol, rl, cu, S, (qw S F E K pl pm pd 33 0 0 B).2, O, R, PC, PL, PM, PD)) : wpX_encode post (nI F, nI E, nI K, nI T, nI n, nI bl, nI ol, rl, cu, S, B, O, R, PC, PL, PM, PD) := by
  have h49 := qd_hd49 (F := F) (E := E) (l := n) hE hF2 hn
  unfold wpX_encode
  refine qx_ps hE hE2 hF2 hF hK3 hK hT8 hn (fun PC PL PM PD pc pl pm pd ht => ?_)
  have hc := (ht 0 (Nat.le_refl _) (Nat.zero_le _)).2.2.2.2.2.2.2.1 (Or.inl rfl)
  rw [Nat.sub_zero] at hc
  exact qx_wp hE hE2 hF2 hF hK3 hn ht (by omega) (h PC PL PM PD pc pl pm pd ht (by omega))
end
end
section
/-! the class's methods with any argument: the state stays well formed; the law's own small methods -/
def qs_ok (n bl ol : Nat) (S B O R : Nat → Int32) : Prop := n ≤ 32 ∧ bl ≤ 64 ∧ ol ≤ 32 ∧ qd_by S ∧ qd_by B ∧ qd_by O ∧ qd_by R
abbrev qs_J9 : Type := Int32 → Int32 → Int32 → Int32 → Int32 → Int32 → Int32 → Int32 → Int32 → (Nat → Int32) → (Nat → Int32) → (Nat → Int32) → (Nat → Int32) → (Nat → Int32) → (Nat → Int32) → (Nat → Int32) → (Nat → Int32) → Prop
def qs_J (F E K T : Nat) (J : qs_J9) : Prop :=
  ∀ (n bl ol : Nat) (rl cu : Int32) (S B O R PC PL PM PD : Nat → Int32), qs_ok n bl ol S B O R → J (nI F) (nI E) (nI K) (nI T) (nI n) (nI bl) (nI ol) rl cu S B O R PC PL PM PD
theorem qs_pos {v : Int32} (h : 1 ≤ v) : ∃ j, 1 ≤ j ∧ j < 2 ^ 31 ∧ v = nI j := by
  have h0 : ¬ v < 0 := fun z => absurd (Int32.lt_of_le_of_lt (Int32.le_trans (show (0 : Int32) ≤ 1 by decide) h) z) Int32.lt_irrefl
  obtain ⟨j, hj, rfl⟩ := nI_of h0
  exact ⟨j, (nI_leI (a := 1) (by decide) hj).mp h, hj, rfl⟩
theorem qs_cell {post : Int32 → Prop} {L a : Nat} {xs : Nat → Int32} (hL : L ≤ 260) (ha : a < 1000000) (h : ∀ r, post r) : wpL_cell post L xs () (nI a) := by
  by_cases c : L ≤ a
  · exact br_t (nI_le c (by omega)) (h _)
  · exact br_f (nI_ge (by omega) (by omega)) ⟨vp_in_nI (by omega) (by omega), h _⟩
theorem qs_pick {post : Int32 → Prop} {p : Int32} {m : Nat} (hm : m < 1000000) (h : ∀ r, (r < m ∨ r = 0) → post (nI r)) : wpL_pick post () p (nI m) := by
  by_cases c : 1 ≤ m
  · obtain ⟨j, hj, e⟩ := pk_andE p (m := 2147483647) 31 (by decide)
    refine br_t (nI_le (a := 1) c (by omega)) ⟨nI_ne0 (by omega) (by omega), ?_⟩
    rw [e, pk_rem hj (by omega) (by omega)]
    exact h _ (Or.inl (Nat.mod_lt _ (by omega)))
  · refine br_f ?_ (h 0 (Or.inr rfl))
    have : m = 0 := by omega
    rw [this]
    decide
theorem qs_least {post : Int32 → Prop} {a b : Int32} (h : ∀ r, post r) : wpL_least post () a b := br_c (fun _ => h _) (fun _ => h _)
theorem qs_clamp {post : Int32 → Prop} {a lo hi : Nat} (h1 : lo ≤ a) (h2 : a ≤ hi) (hh : hi < 1000) (h : post (nI a)) : wpX_clamp post () (nI a) (nI lo) (nI hi) :=
  br_t (nI_le h1 (by omega)) (br_t (nI_le h2 (by omega)) h)
section
variable {F E K T n bl ol : Nat} {rl cu : Int32} {S B O R PC PL PM PD : Nat → Int32}
theorem qs_l0 {post : Int32 → Prop} (h : post (nI n)) : wpX_length post (nI F, nI E, nI K, nI T, nI n, nI bl, nI ol, rl, cu, S, B, O, R, PC, PL, PM, PD) 0 := by
  unfold wpX_length
  exact qx_ln (fun _ => h) (fun z => absurd z qi_01) (fun z => absurd z qi_02) (fun z => absurd rfl z)
theorem qs_l1 {post : Int32 → Prop} (h : post (nI bl)) : wpX_length post (nI F, nI E, nI K, nI T, nI n, nI bl, nI ol, rl, cu, S, B, O, R, PC, PL, PM, PD) 1 := by
  unfold wpX_length
  exact qx_ln (fun z => absurd z qi_10) (fun _ => h) (fun z => absurd z qi_12) (fun _ z => absurd rfl z)
theorem qs_l2 {post : Int32 → Prop} (h : post (nI ol)) : wpX_length post (nI F, nI E, nI K, nI T, nI n, nI bl, nI ol, rl, cu, S, B, O, R, PC, PL, PM, PD) 2 := by
  unfold wpX_length
  exact qx_ln (fun z => absurd z qi_20) (fun z => absurd z qi_21) (fun _ => h) (fun _ _ z => absurd rfl z)
theorem qs_ca {post : Int32 → Prop} {w i : Int32} (hn : n ≤ 32) (hb : bl ≤ 64) (ho : ol ≤ 32) (h : ∀ r, post r) : wpX_cellAt post (nI F, nI E, nI K, nI T, nI n, nI bl, nI ol, rl, cu, S, B, O, R, PC, PL, PM, PD) w i := by
  by_cases c : i < 0
  · exact br_t c (h _)
  · obtain ⟨j, hj, rfl⟩ := nI_of c
    refine br_f c (qx_ln (fun e => ?_) (fun e => ?_) (fun e => ?_) (fun e0 e1 e2 => ?_))
    · subst e
      by_cases c2 : j < n
      · exact br_t (nI_lt c2 (by omega)) (br_t rfl ⟨vp_in_nI (by omega) (by decide), h _⟩)
      · exact br_f (nI_nlt (by omega) hj) (h _)
    · subst e
      by_cases c2 : j < bl
      · exact br_t (nI_lt c2 (by omega)) (br_f qi_10 (br_t rfl ⟨vp_in_nI (by omega) (by decide), h _⟩))
      · exact br_f (nI_nlt (by omega) hj) (h _)
    · subst e
      by_cases c2 : j < ol
      · exact br_t (nI_lt c2 (by omega)) (br_f qi_20 (br_f qi_21 ⟨vp_in_nI (by omega) (by decide), h _⟩))
      · exact br_f (nI_nlt (by omega) hj) (h _)
    · exact br_f (fun z => c (Int32.lt_trans z (by decide))) (h _)
theorem qs_ca0 {post : Int32 → Prop} {j : Nat} (hn : n ≤ 32) (hj : j < n) (h : post (S j)) : wpX_cellAt post (nI F, nI E, nI K, nI T, nI n, nI bl, nI ol, rl, cu, S, B, O, R, PC, PL, PM, PD) 0 (nI j) := by
  refine br_f (nI_pos (by omega)) (qx_ln (fun _ => br_t (nI_lt hj (by omega)) (br_t rfl ⟨vp_in_nI (by omega) (by decide), ?_⟩)) (fun z => absurd z qi_01) (fun z => absurd z qi_02) (fun z => absurd rfl z))
  rw [qx_g (a := S)]
  exact h
theorem qs_ca2 {post : Int32 → Prop} {j : Nat} (ho : ol ≤ 32) (hj : j < ol) (h : post (O j)) : wpX_cellAt post (nI F, nI E, nI K, nI T, nI n, nI bl, nI ol, rl, cu, S, B, O, R, PC, PL, PM, PD) 2 (nI j) := by
  refine br_f (nI_pos (by omega)) (qx_ln (fun z => absurd z qi_20) (fun z => absurd z qi_21) (fun _ => br_t (nI_lt hj (by omega)) (br_f qi_20 (br_f qi_21 ⟨vp_in_nI (by omega) (by decide), ?_⟩))) (fun _ _ z => absurd rfl z))
  rw [qx_g (a := O)]
  exact h
theorem qs_fd {post : Int32 → St2 → Prop} {v : Int32} (hb : bl ≤ 64) (hB : qd_by B) (h : ∀ (r : Int32) (bl : Nat) (B : Nat → Int32), bl ≤ 64 → qd_by B → post r (nI F, nI E, nI K, nI T, nI n, nI bl, nI ol, rl, cu, S, B, O, R, PC, PL, PM, PD)) : wpX_feed post (nI F, nI E, nI K, nI T, nI n, nI bl, nI ol, rl, cu, S, B, O, R, PC, PL, PM, PD) v := by
  by_cases c : bl < 64
  · exact br_t (nI_lt (b := 64) c (by decide)) (qx_appB c (h _ _ _ c (qd_by_u' hB (qd_255 v))))
  · exact br_f (nI_nlt (b := 64) (by omega) (by omega)) (h _ _ _ hb hB)
theorem qs_put {post : Int32 → St2 → Prop} {v : Int32} (hn : n ≤ 32) (hS : qd_by S) (h : ∀ (r : Int32) (n : Nat) (S : Nat → Int32), n ≤ 32 → qd_by S → post r (nI F, nI E, nI K, nI T, nI n, nI bl, nI ol, rl, cu, S, B, O, R, PC, PL, PM, PD)) : wpX_put post (nI F, nI E, nI K, nI T, nI n, nI bl, nI ol, rl, cu, S, B, O, R, PC, PL, PM, PD) v := by
  by_cases c : n < 32
  · exact br_t (nI_lt (b := 32) c (by decide)) (qx_appS c (h _ _ _ c (qd_by_u' hS (qd_255 v))))
  · exact br_f (nI_nlt (b := 32) (by omega) (by omega)) (h _ _ _ hn hS)
theorem qs_rp {post : Int32 → St2 → Prop} {v w : Int32} (hn : n ≤ 32) (hS : qd_by S) (h : ∀ (r : Int32) (n : Nat) (S : Nat → Int32), n ≤ 32 → qd_by S → post r (nI F, nI E, nI K, nI T, nI n, nI bl, nI ol, rl, cu, S, B, O, R, PC, PL, PM, PD)) : wpX_repeat post (nI F, nI E, nI K, nI T, nI n, nI bl, nI ol, rl, cu, S, B, O, R, PC, PL, PM, PD) v w := by
  by_cases c : 1 ≤ w
  · obtain ⟨j, j1, j2, rfl⟩ := qs_pos c
    by_cases c2 : n + j ≤ 32
    · exact qx_rp j1 c2 (h _ _ _ c2 (qd_by_fill hS (fun _ _ => qd_255 v)))
    · exact qx_rpF j1 j2 hn (by omega) (h _ _ _ hn hS)
  · exact br_f c (h _ _ _ hn hS)
theorem qs_ec {post : Int32 → St2 → Prop} {v w : Int32} (hn : n ≤ 32) (hS : qd_by S) (h : ∀ (r : Int32) (n : Nat) (S : Nat → Int32), n ≤ 32 → qd_by S → post r (nI F, nI E, nI K, nI T, nI n, nI bl, nI ol, rl, cu, S, B, O, R, PC, PL, PM, PD)) : wpX_echo post (nI F, nI E, nI K, nI T, nI n, nI bl, nI ol, rl, cu, S, B, O, R, PC, PL, PM, PD) v w := by
  by_cases c0 : v < 1
  · exact br_t c0 (h _ _ _ hn hS)
  · obtain ⟨d, d1, d2, rfl⟩ := qs_pos (Int32.not_lt.mp c0)
    by_cases c1 : d ≤ n
    · by_cases c : 1 ≤ w
      · obtain ⟨j, j1, j2, rfl⟩ := qs_pos c
        by_cases c2 : n + j ≤ 32
        · exact qx_ec d1 c1 j1 c2 (h _ _ _ c2 (qr_by_copy hS _))
        · exact qx_ecF d1 c1 hn j1 j2 (by omega) (h _ _ _ hn hS)
      · exact br_f c0 (br_t (nI_le c1 (by omega)) (br_f c (h _ _ _ hn hS)))
    · exact br_f c0 (br_f (nI_ge (by omega) d2) (h _ _ _ hn hS))
theorem qs_cut {post : Int32 → St2 → Prop} {w : Int32} (hn : n ≤ 32) (h : ∀ (r : Int32) (n : Nat), n ≤ 32 → post r (nI F, nI E, nI K, nI T, nI n, nI bl, nI ol, rl, cu, S, B, O, R, PC, PL, PM, PD)) : wpX_cut post (nI F, nI E, nI K, nI T, nI n, nI bl, nI ol, rl, cu, S, B, O, R, PC, PL, PM, PD) 0 w := by
  by_cases c : w < 0
  · exact qx_cn c (h _ _ hn)
  · obtain ⟨j, hj, rfl⟩ := nI_of c
    exact qx_c0 hn hj (fun z => h _ _ (by omega)) (fun _ => h _ _ hn)
theorem qs_cutb {post : Int32 → St2 → Prop} (hb : bl ≤ 64) (h : ∀ (r : Int32) (bl : Nat), bl ≤ 64 → post r (nI F, nI E, nI K, nI T, nI n, nI bl, nI ol, rl, cu, S, B, O, R, PC, PL, PM, PD)) : wpX_cut post (nI F, nI E, nI K, nI T, nI n, nI bl, nI ol, rl, cu, S, B, O, R, PC, PL, PM, PD) 1 0 :=
  qx_c1 (j := 0) hb (by decide) (fun _ => h _ _ (by decide)) (fun _ => h _ _ hb)
theorem qs_pk {post : Int32 → St2 → Prop} {v w : Int32} (hb : bl ≤ 64) (hB : qd_by B) (h : ∀ (r : Int32) (B : Nat → Int32), qd_by B → post r (nI F, nI E, nI K, nI T, nI n, nI bl, nI ol, rl, cu, S, B, O, R, PC, PL, PM, PD)) : wpX_poke post (nI F, nI E, nI K, nI T, nI n, nI bl, nI ol, rl, cu, S, B, O, R, PC, PL, PM, PD) v w := by
  by_cases c : v < 0
  · exact br_t c (h _ _ hB)
  · obtain ⟨j, hj, rfl⟩ := nI_of c
    by_cases c2 : j < bl
    · have hv : vp_in (nI j) 64 := vp_in_nI (by omega) (by decide)
      exact br_f c (br_t (nI_lt c2 (by omega)) ⟨hv, nm_e ⟨hv, nm_e (h _ _ (qd_by_u' hB (qd_255 w)))⟩⟩)
    · exact br_f c (br_f (nI_nlt (by omega) hj) (h _ _ hB))
theorem qs_ad {post : Int32 → St2 → Prop} (ho : ol ≤ 32) (hS : qd_by S) (hO : qd_by O) (h : ∀ (r : Int32) (n : Nat) (S : Nat → Int32), n ≤ 32 → qd_by S → post r (nI F, nI E, nI K, nI T, nI n, nI bl, nI ol, rl, cu, S, B, O, R, PC, PL, PM, PD)) : wpX_adopt post (nI F, nI E, nI K, nI T, nI n, nI bl, nI ol, rl, cu, S, B, O, R, PC, PL, PM, PD) :=
  qx_ad ho (h _ _ _ ho (qd_by_fill hS (fun i _ => hO i)))
theorem qs_de {post : Int32 → St2 → Prop} (hB : qd_by B) (hO : qd_by O) (hR : qd_by R) (hb : bl ≤ 64) (ho : ol ≤ 32) (hE2 : E ≤ 255) (hF : F ≤ 15) (hK : K ≤ 6) (hT8 : T ≤ 8)
    (h : ∀ (r : Int32) (ol : Nat) (rl cu : Int32) (O R : Nat → Int32), ol ≤ 32 → qd_by O → qd_by R → post r (nI F, nI E, nI K, nI T, nI n, nI bl, nI ol, rl, cu, S, B, O, R, PC, PL, PM, PD)) : wpX_decode post (nI F, nI E, nI K, nI T, nI n, nI bl, nI ol, rl, cu, S, B, O, R, PC, PL, PM, PD) := by
  have hw := qr_read_b (bl := bl) (F := F) (E := E) (K := K) (T := T) hB (bl + 1) 0 0 0 R (by omega) hR
  generalize hW : qr_read B bl F E K T (bl + 1) 0 0 0 R = W at hw
  obtain ⟨c, len, R'⟩ := W
  obtain ⟨w1, w2, w3⟩ := hw
  dsimp only at w1 w2 w3
  exact qx_de hB hR hb hE2 hF hK hT8 hW (fun _ cu => h _ _ _ _ _ _ w2 (qd_by_fill hO (fun i _ => w3 i)) w3) (fun _ cu => h _ _ _ _ _ _ ho hO w3)
end
end
section
/-! the checks of one block: surplus, decode, encode, surplus again, decode again -/
section
variable {F E K T n bl ol : Nat} {rl cu : Int32} {S B O R PC PL PM PD : Nat → Int32}
variable {post : Int32 → Prop} {L : Nat} {xs : Nat → Int32} {J85 : Int32 → qs_J9} {J304 : Int32 → Int32 → qs_J9} {x1 x3 x4 x5 x7 : Int32} {v kc ks : Nat}
theorem qc_989 (hn : n ≤ 32) (hO : ∀ j, j < n → O j = S j) (hJ : J304 x7 (nI (v + 1)) (nI F) (nI E) (nI K) (nI T) (nI n) (nI bl) (nI n) rl cu S B O R PC PL PM PD) :
    ∀ k i, i + k = n → ∀ f, k < f → wL_law_989 post L xs J85 J304 x1 x3 x4 x5 x7 (nI n) (nI v) kc ks (nI F) (nI E) (nI K) (nI T) (nI n) (nI bl) (nI n) rl cu S B O R PC PL PM PD f (nI i) := by
  intro k
  induction k with
  | zero =>
    intro i hi f hf
    obtain ⟨f, rfl⟩ : ∃ f', f = f' + 1 := ⟨f - 1, by omega⟩
    exact br_c (fun _ => nm_r (nI_1 v) hJ) (fun _ => br_t (nI_le (by omega) (by omega)) (nm_r (nI_1 v) hJ))
  | succ k ih =>
    intro i hi f hf
    obtain ⟨f, rfl⟩ : ∃ f', f = f' + 1 := ⟨f - 1, by omega⟩
    exact br_f (nI_ge (b := 32) (by omega) (by decide)) (br_f (nI_ge (by omega) (by omega)) (qs_ca2 hn (by omega) (qs_ca0 hn (by omega) (br_t (hO i (by omega)) (nm_r (nI_1 i) (ih (i + 1) (by omega) f (by omega)))))))
theorem qc_917 (hE : 2 ≤ E) (hE2 : E ≤ 255) (hF2 : 2 ≤ F) (hF : F ≤ 15) (hK3 : 3 ≤ K) (hK : K ≤ 6) (hT8 : T ≤ 8) (hs : qs_ok n bl ol S B O R) (h1 : 1 ≤ bl) (h49 : bl ≤ 49)
    (hr : ∀ R, ∃ R', qr_read B bl F E K T (bl + 1) 0 0 0 R = (0, n, R') ∧ ∀ j, j < n → R' j = S j)
    (hp : ∀ pc pl pm pd, (∀ p, p ≤ n → qd_PL S n F E K T pc pl pm pd p) → pc 0 = bl)
    (hJ : qs_J F E K T (J304 x7 (nI (v + 1)))) :
    wL_law_917 post L xs J85 J304 x1 x3 x4 x5 x7 (nI v) (nI bl) kc ks (nI F) (nI E) (nI K) (nI T) (nI n) (nI bl) (nI ol) rl cu S B O R PC PL PM PD := by
  obtain ⟨s1, s2, s3, s4, s5, s6, s7⟩ := hs
  obtain ⟨R1, hW1, e1⟩ := hr R
  obtain ⟨R2, hW2, e2⟩ := hr R1
  have b1 := qr_read_b (bl := bl) (F := F) (E := E) (K := K) (T := T) s5 (bl + 1) 0 0 0 R (by omega) s7
  rw [hW1] at b1
  have b2 := qr_read_b (bl := bl) (F := F) (E := E) (K := K) (T := T) s5 (bl + 1) 0 0 0 R1 (by omega) b1.2.2
  rw [hW2] at b2
  unfold wL_law_917
  refine br_f (nI_nlt (b := 1) h1 (by omega)) (br_f (nI_nlt (a := 49) h49 (by decide)) (qs_l1 (br_t rfl (qx_su s5 s7 hE hE2 hF2 hF hK3 hK hT8 s1 s2 hW1 (fun _ cu PC PL PM PD pc pl pm pd ht => ?_) (fun z => absurd ⟨rfl, rfl, e1⟩ z)))))
  have e := hp pc pl pm pd (fun p hp => (ht p (Nat.zero_le _) hp).2.2.2.2)
  refine br_t (by rw [e, pk_sub (Nat.le_refl _), Nat.sub_self]; rfl) (qx_de s5 b1.2.2 s2 hE2 hF hK hT8 hW2 (fun _ cu => ?_) (fun z => absurd rfl z))
  refine qs_l0 (br_t rfl (qs_l2 (br_t rfl ⟨n + 1, ?_⟩)))
  have hO : ∀ j, j < n → qd_fill O 0 R2 n j = S j := by
    intro j hj
    have := qd_fill_in (a := O) (b := 0) (g := R2) (k := n) hj
    rw [Nat.zero_add] at this
    rw [this]
    exact e2 j hj
  exact qc_989 s1 hO (hJ n bl n _ _ S B _ R2 _ _ _ _ ⟨s1, s2, s1, s4, s5, qd_by_fill s6 (fun i _ => b2.2.2 i), b2.2.2⟩) n 0 (by omega) (n + 1) (by omega)
theorem qc_896 {x12 x14 : Int32} (hE : 2 ≤ E) (hE2 : E ≤ 255) (hF2 : 2 ≤ F) (hF : F ≤ 15) (hK3 : 3 ≤ K) (hK : K ≤ 6) (hT8 : T ≤ 8) (hs : qs_ok n bl ol S B O R)
    (hm : ¬ x14 = 0 → ∀ pc pl pm pd, (∀ p, p ≤ n → qd_PL S n F E K T pc pl pm pd p) → nI (pc 0) ≤ x12)
    (hJ : qs_J F E K T (J304 x7 (nI (v + 1)))) :
    wL_law_896 post L xs J85 J304 x1 x3 x4 x5 x7 (nI v) x12 x14 kc ks (nI F) (nI E) (nI K) (nI T) (nI n) (nI bl) (nI ol) rl cu S B O R PC PL PM PD := by
  obtain ⟨s1, s2, s3, s4, s5, s6, s7⟩ := hs
  unfold wL_law_896
  refine qx_en hE hE2 hF2 hF hK3 hK hT8 s1 (fun PC PL PM PD pc pl pm pd ht hc => ?_)
  have hP : ∀ p, p ≤ n → qd_PL S n F E K T pc pl pm pd p := fun p hp => (ht p (Nat.zero_le _) hp).2.2.2.2
  have q1 := (hP 0 (Nat.zero_le _)).2.1
  obtain ⟨o1, o2, _⟩ := qw_ok hP s1 (by omega) s4 (by omega) hE2 hF 33 0 0 B (Nat.zero_le _) (by omega) (by omega)
  rw [Nat.zero_add] at o1
  have hr : ∀ R, ∃ R', qr_read (qw S F E K pl pm pd 33 0 0 B).2 (pc 0) F E K T (pc 0 + 1) 0 0 0 R = (0, n, R') ∧ ∀ j, j < n → R' j = S j := by
    intro R
    have t := qt_trip hP s1 (by omega) s4 (by omega) hE2 hF 33 0 0 B (pc 0 + 1) 0 R (Nat.zero_le _) (by omega) (by omega) (by omega) (fun z => absurd z (by omega)) (fun j hj => absurd hj (by omega))
    rw [Nat.zero_add] at t
    exact t
  have hp : ∀ pc' pl' pm' pd', (∀ p, p ≤ n → qd_PL S n F E K T pc' pl' pm' pd' p) → pc' 0 = pc 0 := by
    intro pc' pl' pm' pd' h'
    have a := qt_uniq hP h' (by omega) n 0 (by omega)
    have b := qt_uniq h' hP (by omega) n 0 (by omega)
    omega
  rw [o1]
  have key : wL_law_917 post L xs J85 J304 x1 x3 x4 x5 x7 (nI v) (nI (pc 0)) kc ks (nI F) (nI E) (nI K) (nI T) (nI n) (nI (pc 0)) (nI ol) rl cu S ((qw S F E K pl pm pd 33 0 0 B).2) O R PC PL PM PD :=
    qc_917 hE hE2 hF2 hF hK3 hK hT8 ⟨s1, by omega, s3, s4, o2 s5, s6, s7⟩ q1 hc hr hp hJ
  exact br_c (fun _ => key) (fun z => br_t (hm z pc pl pm pd hP) key)
theorem qc_854a {x12 : Int32} (hs : qs_ok n bl ol S B O R) (h0 : wL_law_896 post L xs J85 J304 x1 x3 x4 x5 x7 (nI v) x12 0 kc ks (nI F) (nI E) (nI K) (nI T) (nI n) (nI bl) (nI ol) rl cu S B O R PC PL PM PD) :
    ∀ k i, i + k = n → ∀ f, k < f → wL_law_854 post L xs J85 J304 x1 x3 x4 x5 x7 (nI n) (nI v) x12 kc ks (nI F) (nI E) (nI K) (nI T) (nI n) (nI bl) (nI ol) rl cu S B O R PC PL PM PD f 0 (nI i) := by
  obtain ⟨s1, s2, s3, s4, s5, s6, s7⟩ := hs
  intro k
  induction k with
  | zero =>
    intro i hi f hf
    obtain ⟨f, rfl⟩ : ∃ f', f = f' + 1 := ⟨f - 1, by omega⟩
    exact br_c (fun _ => h0) (fun _ => br_t (nI_le (by omega) (by omega)) h0)
  | succ k ih =>
    intro i hi f hf
    obtain ⟨f, rfl⟩ : ∃ f', f = f' + 1 := ⟨f - 1, by omega⟩
    have key := ih (i + 1) (by omega) f (by omega)
    exact br_f (nI_ge (b := 32) (by omega) (by decide)) (br_f (nI_ge (by omega) (by omega)) (qs_ca s1 s2 s3 (fun r => qs_ca s1 s2 s3 (fun r' => br_c (fun _ => nm_r (nI_1 i) key) (fun _ => nm_r (nI_1 i) key)))))
theorem qc_854b {x12 : Int32} (hs : qs_ok n bl n S B O R) (h0 : wL_law_896 post L xs J85 J304 x1 x3 x4 x5 x7 (nI v) x12 0 kc ks (nI F) (nI E) (nI K) (nI T) (nI n) (nI bl) (nI n) rl cu S B O R PC PL PM PD)
    (h1 : (∀ j, j < n → O j = S j) → wL_law_896 post L xs J85 J304 x1 x3 x4 x5 x7 (nI v) x12 1 kc ks (nI F) (nI E) (nI K) (nI T) (nI n) (nI bl) (nI n) rl cu S B O R PC PL PM PD) :
    ∀ k i, i + k = n → (∀ j, j < i → O j = S j) → ∀ f, k < f → wL_law_854 post L xs J85 J304 x1 x3 x4 x5 x7 (nI n) (nI v) x12 kc ks (nI F) (nI E) (nI K) (nI T) (nI n) (nI bl) (nI n) rl cu S B O R PC PL PM PD f 1 (nI i) := by
  have hs' := hs
  obtain ⟨s1, s2, s3, s4, s5, s6, s7⟩ := hs
  intro k
  induction k with
  | zero =>
    intro i hi hr f hf
    obtain ⟨f, rfl⟩ : ∃ f', f = f' + 1 := ⟨f - 1, by omega⟩
    have h1 := h1 (fun j hj => hr j (by omega))
    exact br_c (fun _ => h1) (fun _ => br_t (nI_le (by omega) (by omega)) h1)
  | succ k ih =>
    intro i hi hr f hf
    obtain ⟨f, rfl⟩ : ∃ f', f = f' + 1 := ⟨f - 1, by omega⟩
    refine br_f (nI_ge (b := 32) (by omega) (by decide)) (br_f (nI_ge (by omega) (by omega)) (qs_ca2 s1 (by omega) (qs_ca0 s1 (by omega) (br_c (fun e => nm_r (nI_1 i) ?_) (fun _ => nm_r (nI_1 i) ?_)))))
    · exact ih (i + 1) (by omega) (lt_s hr e) f (by omega)
    · exact qc_854a hs' h0 k (i + 1) (by omega) f (by omega)
theorem qc_805 (hE : 2 ≤ E) (hE2 : E ≤ 255) (hF2 : 2 ≤ F) (hF : F ≤ 15) (hK3 : 3 ≤ K) (hK : K ≤ 6) (hT8 : T ≤ 8) (hs : qs_ok n bl ol S B O R)
    (hJ : qs_J F E K T (J304 x7 (nI (v + 1)))) :
    wL_law_805 post L xs J85 J304 x1 x3 x4 x5 x7 (nI v) kc ks (nI F) (nI E) (nI K) (nI T) (nI n) (nI bl) (nI ol) rl cu S B O R PC PL PM PD := by
  obtain ⟨s1, s2, s3, s4, s5, s6, s7⟩ := hs
  have hw := qr_read_b (bl := bl) (F := F) (E := E) (K := K) (T := T) s5 (bl + 1) 0 0 0 R (by omega) s7
  generalize hW : qr_read B bl F E K T (bl + 1) 0 0 0 R = W at hw
  obtain ⟨c, len, R'⟩ := W
  obtain ⟨w1, w2, w3⟩ := hw
  dsimp only at w1 w2 w3
  unfold wL_law_805
  refine qs_l1 (qx_de s5 s7 s2 hE2 hF hK hT8 hW (fun c0 cu => qs_l0 ?_) (fun c0 cu => qs_l0 ?_))
  · have hO : qd_by (qd_fill O 0 R' len) := qd_by_fill s6 (fun i _ => w3 i)
    refine br_f (nI_pos (by omega)) (qs_l2 ?_)
    by_cases c1 : len = n
    · subst c1
      refine br_t rfl ⟨len + 1, qc_854b ⟨s1, s2, s1, s4, s5, hO, w3⟩ (qc_896 hE hE2 hF2 hF hK3 hK hT8 ⟨s1, s2, s1, s4, s5, hO, w3⟩ (fun z => absurd rfl z) hJ) (fun he => qc_896 hE hE2 hF2 hF hK3 hK hT8 ⟨s1, s2, s1, s4, s5, hO, w3⟩ (fun _ pc pl pm pd hP => ?_) hJ) len 0 (by omega) lt_0 (len + 1) (by omega)⟩
      rw [c0] at hW
      have hR : ∀ j, j < len → R' j = S j := by
        intro j hj
        have := qd_fill_in (a := O) (b := 0) (g := R') (k := len) hj
        rw [Nat.zero_add] at this
        rw [← this]
        exact he j hj
      have hmin := (qp_min hP (by omega) s5 s2 _ _ _ _ _ _ hW hR (fun _ => rfl)).2
      exact nI_le (by omega) (by omega)
    · exact br_f (fun z => c1 ((nI_eq (by omega) (by omega)).mp z)) ⟨n + 1, qc_854a ⟨s1, s2, w2, s4, s5, hO, w3⟩ (qc_896 hE hE2 hF2 hF hK3 hK hT8 ⟨s1, s2, w2, s4, s5, hO, w3⟩ (fun z => absurd rfl z) hJ) n 0 (by omega) (n + 1) (by omega)⟩
  · exact br_t (qr_neg c0 w1) ⟨n + 1, qc_854a ⟨s1, s2, s3, s4, s5, s6, w3⟩ (qc_896 hE hE2 hF2 hF hK3 hK hT8 ⟨s1, s2, s3, s4, s5, s6, w3⟩ (fun z => absurd rfl z) hJ) n 0 (by omega) (n + 1) (by omega)⟩
theorem qc_784 (hE : 2 ≤ E) (hE2 : E ≤ 255) (hF2 : 2 ≤ F) (hF : F ≤ 15) (hK3 : 3 ≤ K) (hK : K ≤ 6) (hT8 : T ≤ 8) (hs : qs_ok n bl ol S B O R)
    (hJ : qs_J F E K T (J304 x7 (nI (v + 1)))) :
    wL_law_784 post L xs J85 J304 x1 x3 x4 x5 x7 (nI v) kc ks (nI F) (nI E) (nI K) (nI T) (nI n) (nI bl) (nI ol) rl cu S B O R PC PL PM PD := by
  obtain ⟨s1, s2, s3, s4, s5, s6, s7⟩ := hs
  have hw := qr_read_b (bl := bl) (F := F) (E := E) (K := K) (T := T) s5 (bl + 1) 0 0 0 R (by omega) s7
  generalize hW : qr_read B bl F E K T (bl + 1) 0 0 0 R = W at hw
  obtain ⟨c, len, R'⟩ := W
  obtain ⟨w1, w2, w3⟩ := hw
  dsimp only at w1 w2 w3
  unfold wL_law_784
  refine qx_su s5 s7 hE hE2 hF2 hF hK3 hK hT8 s1 s2 hW (fun q cu PC PL PM PD pc pl pm pd ht => ?_) (fun q cu => br_t rfl (qc_805 hE hE2 hF2 hF hK3 hK hT8 ⟨s1, s2, s3, s4, s5, s6, w3⟩ hJ))
  obtain ⟨q1, q2, q3⟩ := q
  subst q1 q2
  have hmin := (qp_min (fun p hp => (ht p (Nat.zero_le _) hp).2.2.2.2) (by omega) s5 s2 _ _ _ _ _ _ hW q3 (fun _ => rfl)).2
  have key : wL_law_805 post L xs J85 J304 x1 x3 x4 x5 x7 (nI v) kc ks (nI F) (nI E) (nI K) (nI T) (nI len) (nI bl) (nI ol) (nI len) cu S B O R' PC PL PM PD := qc_805 hE hE2 hF2 hF hK3 hK hT8 ⟨s1, s2, s3, s4, s5, s6, w3⟩ hJ
  exact br_c (fun _ => key) (fun _ => br_t (by rw [pk_sub (by omega)]; exact nI_pos' (by omega)) key)
end
end
section
/-! the law's feeding of a block by hand: it ends, and the state stays well formed -/
section
variable {F E K T n bl ol : Nat} {rl cu : Int32} {S B O R PC PL PM PD : Nat → Int32}
variable {post : Int32 → Prop} {L : Nat} {xs : Nat → Int32} {J85 : Int32 → qs_J9} {J304 : Int32 → Int32 → qs_J9} {J346 : Int32 → Int32 → Int32 → qs_J9} {J367 : Int32 → Int32 → Int32 → Prop}
variable {x1 x3 x4 x5 x7 x10 x11 x12 x13 x14 x15 x16 x17 : Int32} {v kc ks : Nat}
theorem qf_660 (hE : 2 ≤ E) (hE2 : E ≤ 255) (hJ : ∀ (bl : Nat) (B : Nat → Int32), bl ≤ 64 → qd_by B → J346 (x13 + x15) (x13 + x15) x14 (nI F) (nI E) (nI K) (nI T) (nI n) (nI bl) (nI ol) rl cu S B O R PC PL PM PD) :
    ∀ (f : Nat) (x : Int32) (bl : Nat) (B : Nat → Int32), bl ≤ 64 → qd_by B → ((x < 0 ∧ 0 < f) ∨ ∃ y, y ≤ 64 ∧ x = nI y ∧ y + 1 < f) →
      wL_law_660 post L xs J85 J304 J346 x1 (nI E) x4 x5 x7 x10 x11 x13 x14 x15 kc ks f x (nI F) (nI E) (nI K) (nI T) (nI n) (nI bl) (nI ol) rl cu S B O R PC PL PM PD := by
  intro f
  induction f with
  | zero =>
    intro x bl B hb hB h
    rcases h with ⟨_, h⟩ | ⟨y, _, _, h⟩
    · omega
    · omega
  | succ f ih =>
    intro x bl B hb hB h
    rcases h with ⟨h, _⟩ | ⟨y, hy, rfl, h⟩
    · exact br_t h (nm_e (hJ bl B hb hB))
    · refine br_f (nI_pos (by omega)) (qs_least (fun r => qs_fd hb hB (fun r' bl B hb hB => nm_e (ih _ bl B hb hB ?_))))
      by_cases c : y < E
      · exact Or.inl ⟨pk_sneg (by omega) c, by omega⟩
      · exact Or.inr ⟨y - E, by omega, pk_sub (by omega), by omega⟩
theorem qf_604 {q : Nat} (hs1 : n ≤ 32) (hs3 : ol ≤ 32) (hq : q ≤ 32)
    (h660 : x14 = 0 → ∀ (bl : Nat) (B : Nat → Int32), bl ≤ 64 → qd_by B → ∃ fu, wL_law_660 post L xs J85 J304 J346 x1 x3 x4 x5 x7 x10 x11 (nI q) x14 x15 kc ks fu (x15 - x4 - x1) (nI F) (nI E) (nI K) (nI T) (nI n) (nI bl) (nI ol) rl cu S B O R PC PL PM PD)
    (hD : ¬ x14 = 0 → ∀ (bl : Nat) (B : Nat → Int32), bl ≤ 64 → qd_by B → J346 x12 (nI q) x14 (nI F) (nI E) (nI K) (nI T) (nI n) (nI bl) (nI ol) rl cu S B O R PC PL PM PD) :
    ∀ (k i : Nat) (bl : Nat) (B : Nat → Int32), i + k = q → bl ≤ 64 → qd_by B → ∀ f, k < f →
      wL_law_604 post L xs J85 J304 J346 x1 x3 x4 x5 x7 x10 x11 x12 (nI q) x14 x15 x16 kc ks f (nI i) (nI F) (nI E) (nI K) (nI T) (nI n) (nI bl) (nI ol) rl cu S B O R PC PL PM PD := by
  intro k
  induction k with
  | zero =>
    intro i bl B hi hb hB f hf
    obtain ⟨f, rfl⟩ : ∃ f', f = f' + 1 := ⟨f - 1, by omega⟩
    exact br_t (nI_le (by omega) (by omega)) (br_c (fun z => qs_fd hb hB (fun r bl B hb hB => qs_fd hb hB (fun r' bl B hb hB => nm_e (h660 z bl B hb hB)))) (fun z => hD z bl B hb hB))
  | succ k ih =>
    intro i bl B hi hb hB f hf
    obtain ⟨f, rfl⟩ : ∃ f', f = f' + 1 := ⟨f - 1, by omega⟩
    exact br_f (nI_ge (by omega) (by omega)) (qs_ca hs1 hb hs3 (fun r => qs_fd hb hB (fun r' bl B hb hB => nm_r (nI_1 i) (ih (i + 1) bl B (by omega) hb hB f (by omega)))))
theorem qf_574 (hE : 2 ≤ E) (hE2 : E ≤ 255) (hJ : ∀ (bl : Nat) (B : Nat → Int32), bl ≤ 64 → qd_by B → ∃ fu, wL_law_604 post L xs J85 J304 J346 x1 (nI E) x4 x5 x7 x10 x11 x12 x13 x14 x15 x16 kc ks fu x12 (nI F) (nI E) (nI K) (nI T) (nI n) (nI bl) (nI ol) rl cu S B O R PC PL PM PD) :
    ∀ (f : Nat) (x : Int32) (bl : Nat) (B : Nat → Int32), bl ≤ 64 → qd_by B → ((x < 0 ∧ 0 < f) ∨ ∃ y, y ≤ 64 ∧ x = nI y ∧ y + 1 < f) →
      wL_law_574 post L xs J85 J304 J346 x1 (nI E) x4 x5 x7 x10 x11 x12 x13 x14 x15 x16 kc ks f x (nI F) (nI E) (nI K) (nI T) (nI n) (nI bl) (nI ol) rl cu S B O R PC PL PM PD := by
  intro f
  induction f with
  | zero =>
    intro x bl B hb hB h
    rcases h with ⟨_, h⟩ | ⟨y, _, _, h⟩
    · omega
    · omega
  | succ f ih =>
    intro x bl B hb hB h
    rcases h with ⟨h, _⟩ | ⟨y, hy, rfl, h⟩
    · exact br_t h (hJ bl B hb hB)
    · refine br_f (nI_pos (by omega)) (qs_least (fun r => qs_fd hb hB (fun r' bl B hb hB => nm_e (ih _ bl B hb hB ?_))))
      by_cases c : y < E
      · exact Or.inl ⟨pk_sneg (by omega) c, by omega⟩
      · exact Or.inr ⟨y - E, by omega, pk_sub (by omega), by omega⟩
theorem qf_sub {a b f : Nat} (ha : a ≤ 64) (hb : b ≤ 64) (hf : 70 ≤ f) : (nI a - nI b < 0 ∧ 0 < f) ∨ ∃ y, y ≤ 64 ∧ nI a - nI b = nI y ∧ y + 1 < f := by
  by_cases c : a < b
  · exact Or.inl ⟨pk_sneg (by omega) c, by omega⟩
  · exact Or.inr ⟨a - b, by omega, pk_sub (by omega), by omega⟩
theorem qf_527 {p q : Nat} (hE : 2 ≤ E) (hE2 : E ≤ 255) (hF : F ≤ 15) (hs1 : n ≤ 32) (hb : bl ≤ 64) (hs3 : ol ≤ 32) (hB : qd_by B) (hp : p ≤ q) (hq : q ≤ 32)
    (hN : x14 = 0 → ∃ m, x15 = nI m ∧ K ≤ m ∧ m ≤ 32 ∧ ∀ (bl : Nat) (B : Nat → Int32), bl ≤ 64 → qd_by B → J346 (nI (q + m)) (nI (q + m)) x14 (nI F) (nI E) (nI K) (nI T) (nI n) (nI bl) (nI ol) rl cu S B O R PC PL PM PD)
    (hD : ¬ x14 = 0 → ∀ (bl : Nat) (B : Nat → Int32), bl ≤ 64 → qd_by B → J346 (nI p) (nI q) x14 (nI F) (nI E) (nI K) (nI T) (nI n) (nI bl) (nI ol) rl cu S B O R PC PL PM PD) :
    wL_law_527 post L xs J85 J304 J346 (nI F) (nI E) (nI K) x5 x7 x10 x11 (nI p) (nI q) x14 x15 x16 kc ks (nI F) (nI E) (nI K) (nI T) (nI n) (nI bl) (nI ol) rl cu S B O R PC PL PM PD := by
  have h660 : x14 = 0 → ∀ (bl : Nat) (B : Nat → Int32), bl ≤ 64 → qd_by B → ∃ fu, wL_law_660 post L xs J85 J304 J346 (nI F) (nI E) (nI K) x5 x7 x10 x11 (nI q) x14 x15 kc ks fu (x15 - nI K - nI F) (nI F) (nI E) (nI K) (nI T) (nI n) (nI bl) (nI ol) rl cu S B O R PC PL PM PD := by
    intro z bl B hb hB
    obtain ⟨m, rfl, m1, m2, hJ⟩ := hN z
    refine ⟨100, qf_660 hE hE2 (fun bl B hb hB => ?_) 100 _ bl B hb hB ?_⟩
    · rw [nI_add]
      exact hJ bl B hb hB
    · rw [pk_sub m1]
      exact qf_sub (by omega) (by omega) (by omega)
  have h604 : ∀ (bl : Nat) (B : Nat → Int32), bl ≤ 64 → qd_by B → ∃ fu, wL_law_604 post L xs J85 J304 J346 (nI F) (nI E) (nI K) x5 x7 x10 x11 (nI p) (nI q) x14 x15 x16 kc ks fu (nI p) (nI F) (nI E) (nI K) (nI T) (nI n) (nI bl) (nI ol) rl cu S B O R PC PL PM PD :=
    fun bl B hb hB => ⟨q + 1, qf_604 hs1 hs3 hq h660 hD (q - p) p bl B (by omega) hb hB (q + 1) (by omega)⟩
  have h563 : ∀ z0 z1 : Int32, wL_law_563 post L xs J85 J304 J346 (nI F) (nI E) (nI K) x5 x7 x10 x11 (nI p) (nI q) x14 x15 x16 (nI (q - p)) z0 z1 kc ks (nI F) (nI E) (nI K) (nI T) (nI n) (nI bl) (nI ol) rl cu S B O R PC PL PM PD := by
    intro z0 z1
    unfold wL_law_563
    exact qs_fd hb hB (fun r bl B hb hB => nm_e ⟨100, qf_574 hE hE2 h604 100 _ bl B hb hB (qf_sub (by omega) (by omega) (by omega))⟩)
  unfold wL_law_527
  exact nm_r (pk_sub hp) (qs_least (fun r => br_c (fun _ => qs_least (fun r' => h563 _ _)) (fun _ => h563 _ _)))
theorem qf_ge {a b : Nat} (ha : a ≤ 64) (hb : b ≤ 64) (hK : K ≤ 6) : nI K ≤ nI a - nI b ↔ K + b ≤ a := by
  rw [Int32.le_iff_toInt_le, nI_toInt (by omega), pk_sub_toInt (by omega) (by omega)]
  omega
theorem qf_507 {p q a b : Nat} {z0 : Int32} (hE : 2 ≤ E) (hE2 : E ≤ 255) (hF : F ≤ 15) (hK : K ≤ 6) (hs1 : n ≤ 32) (hb : bl ≤ 64) (hs3 : ol ≤ 32) (hB : qd_by B) (hp : p ≤ q) (hq : q + a ≤ n) (hb2 : b ≤ 2) (hx : x15 = nI a - nI b)
    (hD : ¬ z0 = 0 → ∀ (bl : Nat) (B : Nat → Int32), bl ≤ 64 → qd_by B → J346 (nI p) (nI q) z0 (nI F) (nI E) (nI K) (nI T) (nI n) (nI bl) (nI ol) rl cu S B O R PC PL PM PD)
    (h1 : z0 = 0 → ∀ (bl : Nat) (B : Nat → Int32), bl ≤ 64 → qd_by B → J346 (nI p) (nI (q + 1)) z0 (nI F) (nI E) (nI K) (nI T) (nI n) (nI bl) (nI ol) rl cu S B O R PC PL PM PD)
    (hm : z0 = 0 → ∀ m, K ≤ m → q + m ≤ n → ∀ (bl : Nat) (B : Nat → Int32), bl ≤ 64 → qd_by B → J346 (nI (q + m)) (nI (q + m)) z0 (nI F) (nI E) (nI K) (nI T) (nI n) (nI bl) (nI ol) rl cu S B O R PC PL PM PD) :
    wL_law_507 post L xs J85 J304 J346 (nI F) (nI E) (nI K) x5 x7 x10 x11 (nI p) (nI q) x15 x16 z0 kc ks (nI F) (nI E) (nI K) (nI T) (nI n) (nI bl) (nI ol) rl cu S B O R PC PL PM PD := by
  subst hx
  unfold wL_law_507
  by_cases c : K + b ≤ a
  · exact br_t ((qf_ge (by omega) (by omega) hK).mpr c) (qf_527 hE hE2 hF hs1 hb hs3 hB hp (by omega) (fun z => ⟨a - b, pk_sub (by omega), by omega, by omega, hm z (a - b) (by omega) (by omega)⟩) hD)
  · refine br_f (fun z => c ((qf_ge (by omega) (by omega) hK).mp z)) (br_c (fun z => nm_r (nI_1 q) (h1 z bl B hb hB)) (fun z => ?_))
    exact qf_527 hE hE2 hF hs1 hb hs3 hB hp (by omega) (fun y => absurd y z) hD
theorem qf_478 {p q a : Nat} (hE : 2 ≤ E) (hE2 : E ≤ 255) (hF : F ≤ 15) (hK : K ≤ 6) (hs1 : n ≤ 32) (hb : bl ≤ 64) (hs3 : ol ≤ 32) (hB : qd_by B) (hp : p ≤ q) (hq : q + a ≤ n)
    (hD : q = n → ∀ (bl : Nat) (B : Nat → Int32), bl ≤ 64 → qd_by B → J346 (nI p) (nI q) 1 (nI F) (nI E) (nI K) (nI T) (nI n) (nI bl) (nI ol) rl cu S B O R PC PL PM PD)
    (h1 : q < n → ∀ (bl : Nat) (B : Nat → Int32), bl ≤ 64 → qd_by B → J346 (nI p) (nI (q + 1)) 0 (nI F) (nI E) (nI K) (nI T) (nI n) (nI bl) (nI ol) rl cu S B O R PC PL PM PD)
    (hm : q < n → ∀ m, K ≤ m → q + m ≤ n → ∀ (bl : Nat) (B : Nat → Int32), bl ≤ 64 → qd_by B → J346 (nI (q + m)) (nI (q + m)) 0 (nI F) (nI E) (nI K) (nI T) (nI n) (nI bl) (nI ol) rl cu S B O R PC PL PM PD) :
    wL_law_478 post L xs J85 J304 J346 (nI F) (nI E) (nI K) x5 x7 x10 (nI n) (nI p) (nI q) (nI a) x16 x17 kc ks (nI F) (nI E) (nI K) (nI T) (nI n) (nI bl) (nI ol) rl cu S B O R PC PL PM PD := by
  have h495 : ∀ (b : Nat) (x15 : Int32), b ≤ 2 → x15 = nI a - nI b → wL_law_495 post L xs J85 J304 J346 (nI F) (nI E) (nI K) x5 x7 x10 (nI n) (nI p) (nI q) x15 x16 kc ks (nI F) (nI E) (nI K) (nI T) (nI n) (nI bl) (nI ol) rl cu S B O R PC PL PM PD := by
    intro b x15 hb2 hx
    unfold wL_law_495
    by_cases c : q = n
    · exact br_t (by rw [c]) (qf_507 hE hE2 hF hK hs1 hb hs3 hB hp hq hb2 hx (fun _ => hD c) (fun z => absurd z (by decide)) (fun z => absurd z (by decide)))
    · exact br_f (fun z => c ((nI_eq (by omega) (by omega)).mp z)) (qf_507 hE hE2 hF hK hs1 hb hs3 hB hp hq hb2 hx (fun z => absurd rfl z) (fun _ => h1 (by omega)) (fun _ => hm (by omega)))
  unfold wL_law_478
  refine br_c (fun _ => qs_pick (m := 3) (by decide) (fun r hr => nm_e (h495 r _ (by omega) rfl))) (fun _ => h495 0 _ (by omega) ?_)
  rw [pk_sub (Nat.zero_le _)]
  rfl
theorem qf_377 {q a r0 d : Nat} (hs1 : n ≤ 32) (hb : bl ≤ 64) (hs3 : ol ≤ 32) (hT8 : T ≤ 8) (ha : q + a ≤ n)
    (hJ : ∀ (a : Nat) (x16 : Int32), q + a ≤ n → J367 (nI a) x16 (nI (d + 1))) :
    ∀ (k r : Nat), q + r + k = n → ∀ f, k < f → wL_law_377 post L xs J85 J304 J346 J367 x1 x3 x4 (nI T) x7 x10 (nI n) x12 (nI q) (nI a) x16 (nI d) kc ks (nI F) (nI E) (nI K) (nI T) (nI n) (nI bl) (nI ol) rl cu S B O R PC PL PM PD f (nI r) := by
  have h424 : ∀ r, q + r ≤ n → wL_law_424 post L xs J85 J304 J346 J367 x1 x3 x4 (nI T) x7 x10 (nI n) x12 (nI q) (nI a) x16 (nI d) (nI r) kc ks (nI F) (nI E) (nI K) (nI T) (nI n) (nI bl) (nI ol) rl cu S B O R PC PL PM PD := by
    intro r hr
    unfold wL_law_424
    exact br_c (fun _ => nm_r (nI_1 d) (hJ a _ ha)) (fun _ => nm_r (nI_1 d) (hJ r _ hr))
  have hc : ∀ r, q + r ≤ n → (nI n - nI T ≤ nI q + nI r ↔ n ≤ q + r + T) := by
    intro r hr
    rw [nI_add, Int32.le_iff_toInt_le, pk_sub_toInt (by omega) (by omega), nI_toInt (by omega)]
    omega
  intro k
  induction k with
  | zero =>
    intro r hr f hf
    obtain ⟨f, rfl⟩ : ∃ f', f = f' + 1 := ⟨f - 1, by omega⟩
    exact br_t ((hc r (by omega)).mpr (by omega)) (h424 r (by omega))
  | succ k ih =>
    intro r hr f hf
    obtain ⟨f, rfl⟩ : ∃ f', f = f' + 1 := ⟨f - 1, by omega⟩
    exact br_c (fun _ => h424 r (by omega)) (fun _ => qs_ca hs1 hb hs3 (fun _ => qs_ca hs1 hb hs3 (fun _ => br_c (fun _ => nm_r (nI_1 r) (ih (r + 1) (by omega) f (by omega))) (fun _ => h424 r (by omega)))))
theorem qf_367 {p q at0 : Nat} (hL : L ≤ 260) (hat : at0 ≤ 1000) (hv : v ≤ 3) (hs1 : n ≤ 32) (hb : bl ≤ 64) (hs3 : ol ≤ 32) (hT8 : T ≤ 8) (hq : q ≤ n)
    (h : ∀ (a : Nat) (x16 x17 : Int32), q + a ≤ n → wL_law_478 post L xs J85 J304 J346 x1 x3 x4 (nI T) (nI at0) (nI v) (nI n) x12 (nI q) (nI a) x16 x17 kc ks (nI F) (nI E) (nI K) (nI T) (nI n) (nI bl) (nI ol) rl cu S B O R PC PL PM PD) :
    ∀ (k d a : Nat) (x16 : Int32), d + k = q + 1 → q + a ≤ n → ∀ f, k < f → wL_law_367 post L xs J85 J304 J346 x1 x3 x4 (nI T) (nI at0) (nI v) (nI n) x12 (nI q) kc ks (nI F) (nI E) (nI K) (nI T) (nI n) (nI bl) (nI ol) rl cu S B O R PC PL PM PD f (nI a) x16 (nI d) := by
  intro k
  induction k with
  | zero =>
    intro d a x16 hd ha f hf
    obtain ⟨f, rfl⟩ : ∃ f', f = f' + 1 := ⟨f - 1, by omega⟩
    refine br_t (nI_lt (by omega) (by omega)) ?_
    rw [show nI at0 + nI q + 5 * nI v = nI (at0 + q + 5 * v) from by rw [nI_add, show (5 : Int32) * nI v = nI (5 * v) from pk_mul 5 _, nI_add]]
    exact qs_cell hL (by omega) (fun r => br_c (fun _ => br_c (fun _ => h 0 _ _ (by omega)) (fun _ => h a _ _ ha)) (fun _ => h a _ _ ha))
  | succ k ih =>
    intro d a x16 hd ha f hf
    obtain ⟨f, rfl⟩ : ∃ f', f = f' + 1 := ⟨f - 1, by omega⟩
    exact br_f (nI_nlt (by omega) (by omega)) ⟨n + 1, qf_377 (r0 := 0) hs1 hb hs3 hT8 ha (fun a x16 ha => ih (d + 1) a x16 (by omega) ha f (by omega)) (n - q) 0 (by omega) (n + 1) (by omega)⟩
theorem qf_346 {at0 : Nat} (hL : L ≤ 260) (hat : at0 ≤ 1000) (hv : v ≤ 3) (hE : 2 ≤ E) (hE2 : E ≤ 255) (hF : F ≤ 15) (hK3 : 3 ≤ K) (hK : K ≤ 6) (hT8 : T ≤ 8) (hs1 : n ≤ 32) (hs3 : ol ≤ 32)
    (h : ∀ (bl : Nat) (B : Nat → Int32), bl ≤ 64 → qd_by B → wL_law_700 post L xs J85 J304 (nI F) (nI E) (nI K) (nI T) (nI at0) (nI v) kc ks (nI F) (nI E) (nI K) (nI T) (nI n) (nI bl) (nI ol) rl cu S B O R PC PL PM PD) :
    ∀ (f p q bl : Nat) (B : Nat → Int32), n - q + 1 < f → q ≤ n → p ≤ q → bl ≤ 64 → qd_by B → wL_law_346 post L xs J85 J304 (nI F) (nI E) (nI K) (nI T) (nI at0) (nI v) (nI n) kc ks f (nI p) (nI q) 0 (nI F) (nI E) (nI K) (nI T) (nI n) (nI bl) (nI ol) rl cu S B O R PC PL PM PD := by
  intro f
  induction f with
  | zero => intro p q bl B hf; omega
  | succ f ih =>
    intro p q bl B hf hq hp hb hB
    refine br_t rfl (br_f (nI_nlt (by omega) (by omega)) ⟨q + 2, qf_367 (p := p) hL hat hv hs1 hb hs3 hT8 hq (fun a x16 x17 ha => ?_) q 1 0 0 (by omega) (by omega) (q + 2) (by omega)⟩)
    refine qf_478 hE hE2 hF hK hs1 hb hs3 hB hp ha (fun c bl B hb hB => ?_) (fun c bl B hb hB => ?_) (fun c m m1 m2 bl B hb hB => ?_)
    · obtain ⟨f, rfl⟩ : ∃ f', f = f' + 1 := ⟨f - 1, by omega⟩
      exact br_f (by decide) (h bl B hb hB)
    · exact ih p (q + 1) bl B (by omega) (by omega) (by omega) hb hB
    · exact ih (q + m) (q + m) bl B (by omega) m2 (Nat.le_refl _) hb hB
end
end
section
/-! the law's loops -/
theorem qs_cell' {post : Int32 → Prop} {L a : Nat} {xs : Nat → Int32} {p : Int32} (e : p = nI a) (hL : L ≤ 260) (ha : a < 1000000) (h : ∀ r, post r) : wpL_cell post L xs () p := by
  rw [e]
  exact qs_cell hL ha h
theorem qs_pick' {post : Int32 → Prop} {p p1 : Int32} {m : Nat} (e : p1 = nI m) (hm : m < 1000000) (h : ∀ r, (r < m ∨ r = 0) → post (nI r)) : wpL_pick post () p p1 := by
  rw [e]
  exact qs_pick hm h
theorem qs_least32 {post : Int32 → Prop} {n : Nat} (hn : n ≤ 32) (h : post (nI n)) : wpL_least post () (nI n) 32 := by
  by_cases c : n = 32
  · rw [c] at h ⊢
    exact br_c (fun _ => h) (fun _ => h)
  · exact br_f (nI_ge (b := 32) (by omega) (by decide)) h
section
variable {F E K T n bl ol : Nat} {rl cu : Int32} {S B O R PC PL PM PD : Nat → Int32}
variable {post : Int32 → Prop} {L : Nat} {xs : Nat → Int32} {J85 : Int32 → qs_J9} {J304 : Int32 → Int32 → qs_J9} {x1 x3 x4 x5 x7 : Int32} {v kc ks : Nat}
theorem ql_766 {z0 z1 : Int32} (hE : 2 ≤ E) (hE2 : E ≤ 255) (hF2 : 2 ≤ F) (hF : F ≤ 15) (hK3 : 3 ≤ K) (hK : K ≤ 6) (hT8 : T ≤ 8) (hs : qs_ok n bl ol S B O R)
    (hJ : qs_J F E K T (J304 x7 (nI (v + 1)))) : wL_law_766 post L xs J85 J304 x1 x3 x4 x5 x7 (nI v) z0 z1 kc ks (nI F) (nI E) (nI K) (nI T) (nI n) (nI bl) (nI ol) rl cu S B O R PC PL PM PD := by
  obtain ⟨s1, s2, s3, s4, s5, s6, s7⟩ := hs
  unfold wL_law_766
  exact qs_pk s2 s5 (fun r B hB => qs_de hB s6 s7 s2 s3 hE2 hF hK hT8 (fun r' ol rl cu O R ho hO hR => br_c (fun _ => qc_784 hE hE2 hF2 hF hK3 hK hT8 ⟨s1, s2, ho, s4, hB, hO, hR⟩ hJ) (fun _ => qs_ad ho s4 hO (fun r'' n S hn hS => qc_784 hE hE2 hF2 hF hK3 hK hT8 ⟨hn, s2, ho, hS, hB, hO, hR⟩ hJ))))
theorem ql_304 {a : Nat} (hL : L ≤ 260) (ha : a ≤ 900) (hE : 2 ≤ E) (hE2 : E ≤ 255) (hF2 : 2 ≤ F) (hF : F ≤ 15) (hK3 : 3 ≤ K) (hK : K ≤ 6) (hT8 : T ≤ 8)
    (h85 : a + 2 < L → qs_J F E K T (J85 (nI (a + 2)))) (hp : post 1) :
    ∀ k v, v + k = 3 → ∀ f, k + 1 < f → qs_J F E K T (wL_law_304 post L xs J85 (nI F) (nI E) (nI K) (nI T) kc ks f (nI a) (nI v)) := by
  intro k
  induction k with
  | zero =>
    intro v hv f hf n bl ol rl cu S B O R PC PL PM PD hs
    obtain ⟨f, rfl⟩ : ∃ f', f = f' + 1 + 1 := ⟨f - 2, by omega⟩
    have e : v = 3 := by omega
    subst e
    have hend : qs_J F E K T (wL_law_304 post L xs J85 (nI F) (nI E) (nI K) (nI T) kc ks (f + 1) (nI (a + 2)) (nI (3 + 1))) := by
      intro n bl ol rl cu S B O R PC PL PM PD hs
      refine br_t (by decide) ?_
      by_cases c : a + 2 < L
      · exact br_t (nI_lt c (by omega)) (h85 c n bl ol rl cu S B O R PC PL PM PD hs)
      · exact br_f (nI_nlt (by omega) (by omega)) hp
    have hs' := hs
    obtain ⟨s1, s2, s3, s4, s5, s6, s7⟩ := hs
    refine br_f (by decide) (br_t (by decide) (qs_cell hL (by omega) (fun r97 => qs_l1 (qs_pick (by omega) (fun r99 _ => qs_cell' (nI_1 a) hL (by omega) (fun r100 => nm_r (e' := nI (a + 2)) (nI_add a 2) ?_))))))
    exact br_c (fun _ => qs_ca s1 s2 s3 (fun r => ql_766 hE hE2 hF2 hF hK3 hK hT8 hs' hend)) (fun _ => ql_766 hE hE2 hF2 hF hK3 hK hT8 hs' hend)
  | succ k ih =>
    intro v hv f hf n bl ol rl cu S B O R PC PL PM PD hs
    obtain ⟨f, rfl⟩ : ∃ f', f = f' + 1 := ⟨f - 1, by omega⟩
    have hJ := ih (v + 1) (by omega) f (by omega)
    obtain ⟨s1, s2, s3, s4, s5, s6, s7⟩ := hs
    refine br_f (nI_ge (b := 4) (by omega) (by decide)) (br_f (nI_ge (b := 3) (by omega) (by decide)) (qs_l0 (qs_least32 s1 (qs_cutb s2 (fun r bl hb => ⟨n + 2, ?_⟩)))))
    refine qf_346 hL (by omega) (by omega) hE hE2 hF hK3 hK hT8 s1 s3 (fun bl B hb hB => ?_) (n + 2) 0 0 bl B (by omega) (by omega) (by omega) hb s5
    unfold wL_law_700
    exact qc_784 hE hE2 hF2 hF hK3 hK hT8 ⟨s1, hb, s3, s4, hB, s6, s7⟩ hJ
theorem ql_139 {a1 : Nat} (hL : L ≤ 260) (ha : a1 ≤ 900)
    (h304 : ∃ f, qs_J F E K T (wL_law_304 post L xs J85 x1 x3 x4 x5 kc ks f (nI a1) 0)) :
    ∀ k j a, j + k = 6 → a + 2 * k = a1 → ∀ f, k < f → qs_J F E K T (wL_law_139 post L xs J85 x1 x3 x4 x5 kc ks f (nI a) (nI j)) := by
  intro k
  induction k with
  | zero =>
    intro j a hj ha1 f hf n bl ol rl cu S B O R PC PL PM PD hs
    obtain ⟨f, rfl⟩ : ∃ f', f = f' + 1 := ⟨f - 1, by omega⟩
    obtain ⟨fu, h⟩ := h304
    have e : a = a1 := by omega
    subst e
    exact br_t (nI_le (a := 6) (by omega) (by omega)) ⟨fu, h n bl ol rl cu S B O R PC PL PM PD hs⟩
  | succ k ih =>
    intro j a hj ha1 f hf n bl ol rl cu S B O R PC PL PM PD hs
    obtain ⟨f, rfl⟩ : ∃ f', f = f' + 1 := ⟨f - 1, by omega⟩
    obtain ⟨s1, s2, s3, s4, s5, s6, s7⟩ := hs
    have key : ∀ (n : Nat) (S : Nat → Int32), n ≤ 32 → qd_by S → wL_law_139 post L xs J85 x1 x3 x4 x5 kc ks f (nI (a + 2)) (nI (j + 1)) (nI F) (nI E) (nI K) (nI T) (nI n) (nI bl) (nI ol) rl cu S B O R PC PL PM PD :=
      fun n S hn hS => ih (j + 1) (a + 2) (by omega) (by omega) f (by omega) n bl ol rl cu S B O R PC PL PM PD ⟨hn, s2, s3, hS, s5, s6, s7⟩
    refine br_f (nI_ge (b := 6) (by omega) (by decide)) (qs_cell hL (by omega) (fun r688 => qs_cell' (nI_1 a) hL (by omega) (fun r689 => nm_r (e' := nI (a + 2)) (nI_add a 2) (qs_l0 (nm_e (nm_e ?_))))))
    refine br_c (fun _ => ?_) (fun _ => br_c (fun _ => ?_) (fun _ => br_c (fun _ => ?_) (fun _ => ?_)))
    · exact qs_pick (m := 3) (by decide) (fun r _ => qs_put s1 s4 (fun r' n S hn hS => nm_r (nI_1 j) (key n S hn hS)))
    · exact qs_put s1 s4 (fun r' n S hn hS => nm_r (nI_1 j) (key n S hn hS))
    · exact qs_pick (m := 3) (by decide) (fun r _ => qs_pick (m := 12) (by decide) (fun r' _ => qs_least (fun r'' => qs_rp s1 s4 (fun r3 n S hn hS => nm_r (nI_1 j) (key n S hn hS)))))
    · exact qs_pick (m := n) (by omega) (fun r _ => qs_pick (m := 14) (by decide) (fun r' _ => qs_least (fun r'' => qs_ec s1 s4 (fun r3 n S hn hS => nm_r (nI_1 j) (key n S hn hS)))))
theorem ql_85 (hL : L ≤ 260) (hE : 2 ≤ E) (hE2 : E ≤ 255) (hF2 : 2 ≤ F) (hF : F ≤ 15) (hK3 : 3 ≤ K) (hK : K ≤ 6) (hT8 : T ≤ 8) (hp : post 1) :
    ∀ f a, 1 ≤ f → L < a + f → a ≤ 400 → qs_J F E K T (wL_law_85 post L xs (nI F) (nI E) (nI K) (nI T) kc ks f (nI a)) := by
  intro f
  induction f with
  | zero => intro a h1; omega
  | succ f ih =>
    intro a h1 hf ha n bl ol rl cu S B O R PC PL PM PD hs
    have hs' := hs
    obtain ⟨s1, s2, s3, s4, s5, s6, s7⟩ := hs
    have h304 : ∃ fu, qs_J F E K T (wL_law_304 post L xs (wL_law_85 post L xs (nI F) (nI E) (nI K) (nI T) kc ks f) (nI F) (nI E) (nI K) (nI T) kc ks fu (nI (a + 13)) 0) :=
      ⟨5, ql_304 (a := a + 13) hL (by omega) hE hE2 hF2 hF hK3 hK hT8 (fun c => ih (a + 13 + 2) (by omega) (by omega) (by omega)) hp 3 0 (by omega) 5 (by omega)⟩
    have h139 : qs_J F E K T (wL_law_139 post L xs (wL_law_85 post L xs (nI F) (nI E) (nI K) (nI T) kc ks f) (nI F) (nI E) (nI K) (nI T) kc ks 7 (nI (a + 1)) 0) :=
      ql_139 (a1 := a + 13) hL (by omega) h304 6 0 (a + 1) (by omega) (by omega) 7 (by omega)
    have h118 : ∀ x8 : Int32, wL_law_118 post L xs (wL_law_85 post L xs (nI F) (nI E) (nI K) (nI T) kc ks f) (nI F) (nI E) (nI K) (nI T) (nI (a + 1)) x8 (nI n) kc ks (nI F) (nI E) (nI K) (nI T) (nI n) (nI bl) (nI ol) rl cu S B O R PC PL PM PD := by
      intro x8
      unfold wL_law_118
      exact qs_pick' (nI_1 n) (by omega) (fun r _ => qs_cut s1 (fun r' n hn => ⟨7, h139 n bl ol rl cu S B O R PC PL PM PD ⟨hn, s2, s3, s4, s5, s6, s7⟩⟩))
    exact nm_r (nI_1 a) (qs_cell hL (by omega) (fun r55 => qs_l0 (br_c (fun _ => h118 r55) (fun _ => br_c (fun _ => h118 r55) (fun _ => ⟨7, h139 n bl ol rl cu S B O R PC PL PM PD hs'⟩)))))
theorem ql_37 {z : Nat} {z1 : Int32} (hL : L ≤ 260) (hF2 : 2 ≤ F) (hF : F ≤ 15) (hz1 : 1 ≤ z) (hz : z ≤ 254) (hp : post 1) : wL_law_37 post L xs (nI F) (nI z) z1 2 0 0 := by
  unfold wL_law_37
  refine qs_pick (by omega) (fun e he => nm_r (e' := nI (2 + e)) (nI_add 2 e) (qs_cell (a := 2) hL (by decide) (fun r8 => qs_pick (m := 4) (by decide) (fun k hk => nm_r (e' := nI (3 + k)) (nI_add 3 k) (qs_cell (a := 3) hL (by decide) (fun r11 => qs_pick (m := 9) (by decide) (fun t ht => ?_)))))))
  refine ⟨by decide, by decide, 8, 292, by decide, by decide, ?_⟩
  refine ⟨by decide, by decide, by decide, by decide, by decide, by decide, by decide, by decide, by decide, by decide, by decide, by decide, by decide, by decide, by decide, by decide, ?_⟩
  refine qs_clamp (lo := 2) (hi := 15) hF2 hF (by decide) (qs_clamp (lo := 2) (hi := 255) (by omega) (by omega) (by decide) (qs_clamp (lo := 3) (hi := 6) (by omega) (by omega) (by decide) (qs_clamp (lo := 0) (hi := 8) (by omega) (by omega) (by decide) ?_)))
  exact ⟨L + 1, ql_85 hL (by omega) (by omega) hF2 hF (by omega) (by omega) (by omega) hp (L + 1) 4 (by omega) (by omega) (by omega) 0 0 0 0 0 _ _ _ _ _ _ _ _ ⟨by decide, by decide, by decide, qd_by_0, qd_by_0, qd_by_0, qd_by_0⟩⟩
end
theorem i_vc (xs : Nat → Int32) (L : Nat) (hL : L ≤ 260) : wpL_law (fun r => r = 1) L xs := by
  unfold wpL_law
  exact qs_cell (a := 0) hL (by decide) (fun r1 => qs_pick (m := 14) (by decide) (fun f hf => nm_r (e' := nI (2 + f)) (nI_add 2 f) (qs_cell (a := 1) hL (by decide) (fun r4 =>
    br_c (fun _ => ql_37 (z := 254) hL (by omega) (by omega) (by decide) (by decide) rfl) (fun _ => ql_37 (z := 6) hL (by omega) (by omega) (by decide) (by decide) rfl)))))
end
