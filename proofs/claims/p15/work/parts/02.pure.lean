/-! numbers of the format, distances, the plan's local conditions, the reach table's local conditions -/
def qd_ext (F E x : Nat) : Nat := if x < F then 0 else (x - F) / E + 1
def qd_hd (F E l : Nat) : Nat := 1 + qd_ext F E l + l
def qd_rep (S : Nat → Int32) (q m d : Nat) : Prop := ∀ i, i < m → S (q + i) = S (q + i - d)
def qd_isD (S : Nat → Int32) (q m d : Nat) : Prop :=
  (d = 0 ∧ ∀ e, 1 ≤ e → e ≤ q → ¬ qd_rep S q m e) ∨
  (1 ≤ d ∧ d ≤ q ∧ qd_rep S q m d ∧ ∀ e, 1 ≤ e → e < d → ¬ qd_rep S q m e)
theorem qd_exD (S : Nat → Int32) (q m : Nat) : ∃ d, qd_isD S q m d := by
  by_cases h : ∃ d, 1 ≤ d ∧ d ≤ q ∧ qd_rep S q m d
  · obtain ⟨d, ⟨h1, h2, h3⟩, h4⟩ := pk_least (fun d => 1 ≤ d ∧ d ≤ q ∧ qd_rep S q m d) h
    exact ⟨d, Or.inr ⟨h1, h2, h3, fun e he hd hr => h4 e hd ⟨he, by omega, hr⟩⟩⟩
  · exact ⟨0, Or.inl ⟨rfl, fun e h1 h2 h3 => h ⟨e, h1, h2, h3⟩⟩⟩
noncomputable def qd_D (S : Nat → Int32) (q m : Nat) : Nat := Classical.choose (qd_exD S q m)
theorem qd_Ds (S : Nat → Int32) (q m : Nat) : qd_isD S q m (qd_D S q m) := Classical.choose_spec (qd_exD S q m)
theorem qd_Du {S : Nat → Int32} {q m d e : Nat} (hd : qd_isD S q m d) (he : qd_isD S q m e) : d = e := by
  rcases hd with ⟨h1, h2⟩ | ⟨h1, h2, h3, h4⟩
  · rcases he with ⟨g1, g2⟩ | ⟨g1, g2, g3, g4⟩
    · omega
    · exact absurd g3 (h2 e g1 g2)
  · rcases he with ⟨g1, g2⟩ | ⟨g1, g2, g3, g4⟩
    · exact absurd h3 (g2 d h1 h2)
    · by_cases a : d < e
      · exact absurd h3 (g4 d h1 a)
      · by_cases b : e < d
        · exact absurd g3 (h4 e g1 b)
        · omega
theorem qd_De {S : Nat → Int32} {q m d : Nat} (h : qd_isD S q m d) : qd_D S q m = d := qd_Du (qd_Ds S q m) h
theorem qd_Dle (S : Nat → Int32) (q m : Nat) : qd_D S q m ≤ q := by
  rcases qd_Ds S q m with ⟨h1, _⟩ | ⟨_, h2, _⟩
  · omega
  · exact h2
def qd_feas (S : Nat → Int32) (n K p l m : Nat) : Prop := K ≤ m ∧ p + l + m ≤ n ∧ 0 < qd_D S (p + l) m
def qd_cost (F E K : Nat) (pc : Nat → Nat) (p l m : Nat) : Nat := qd_hd F E l + (2 + qd_ext F E (m - K)) + pc (p + l + m)
def qd_bef (a b l m : Nat) : Prop := a < l ∨ (a = l ∧ m < b)
def qd_fin (n T p : Nat) : Prop := p = 0 ∨ T ≤ n - p
def qd_best (S : Nat → Int32) (n F E K : Nat) (pc : Nat → Nat) (p l0 m0 c l m d : Nat) : Prop :=
  c ≤ 1000000 ∧ (∀ a b, qd_bef a b l0 m0 → qd_feas S n K p a b → c ≤ qd_cost F E K pc p a b) ∧
  (c = 1000000 ∨ (qd_feas S n K p l m ∧ c = qd_cost F E K pc p l m ∧ c < 1000000 ∧ d = qd_D S (p + l) m ∧
    ∀ a b, qd_bef a b l m → qd_feas S n K p a b → c < qd_cost F E K pc p a b))
theorem qd_best_0 {S : Nat → Int32} {n F E K : Nat} {pc : Nat → Nat} {p m0 l m d : Nat} (h : n ≤ p + m0) :
    qd_best S n F E K pc p 0 m0 1000000 l m d := by
  refine ⟨Nat.le_refl _, fun a b hb hf => ?_, Or.inl rfl⟩
  obtain ⟨h1, h2, h3⟩ := hf
  rcases hb with hb | ⟨h4, h5⟩
  · omega
  · omega
theorem qd_best_take {S : Nat → Int32} {n F E K : Nat} {pc : Nat → Nat} {p l0 m0 c l m d : Nat}
    (h : qd_best S n F E K pc p l0 m0 c l m d) (hK : K ≤ m0) (hn : p + l0 + m0 ≤ n)
    (hc : qd_cost F E K pc p l0 m0 < c) (hD : 0 < qd_D S (p + l0) m0) (h0 : 0 < m0) :
    qd_best S n F E K pc p l0 (m0 - 1) (qd_cost F E K pc p l0 m0) l0 m0 (qd_D S (p + l0) m0) := by
  obtain ⟨h1, h2, h3⟩ := h
  refine ⟨by omega, fun a b hb hf => ?_, Or.inr ⟨⟨hK, hn, hD⟩, rfl, by omega, rfl, fun a b hb hf => ?_⟩⟩
  · by_cases hh : qd_bef a b l0 m0
    · have := h2 a b hh hf
      omega
    · have e : a = l0 ∧ b = m0 := by
        unfold qd_bef at hb hh
        omega
      rw [e.1, e.2]
      exact Nat.le_refl _
  · have := h2 a b hb hf
    omega
theorem qd_best_skip {S : Nat → Int32} {n F E K : Nat} {pc : Nat → Nat} {p l0 m0 c l m d : Nat}
    (h : qd_best S n F E K pc p l0 m0 c l m d) (hs : ¬ (qd_cost F E K pc p l0 m0 < c ∧ 0 < qd_D S (p + l0) m0)) (h0 : 0 < m0) :
    qd_best S n F E K pc p l0 (m0 - 1) c l m d := by
  obtain ⟨h1, h2, h3⟩ := h
  refine ⟨h1, fun a b hb hf => ?_, h3⟩
  by_cases hh : qd_bef a b l0 m0
  · exact h2 a b hh hf
  · have e : a = l0 ∧ b = m0 := by
      unfold qd_bef at hb hh
      omega
    obtain ⟨rfl, rfl⟩ := e
    have := hf.2.2
    omega
theorem qd_best_next {S : Nat → Int32} {n F E K : Nat} {pc : Nat → Nat} {p l0 m0 m1 c l m d : Nat}
    (h : qd_best S n F E K pc p l0 m0 c l m d) (hK : m0 < K) (hn : n ≤ p + (l0 + 1) + m1) :
    qd_best S n F E K pc p (l0 + 1) m1 c l m d := by
  obtain ⟨h1, h2, h3⟩ := h
  refine ⟨h1, fun a b hb hf => h2 a b ?_ hf, h3⟩
  obtain ⟨g1, g2, g3⟩ := hf
  unfold qd_bef at hb ⊢
  omega
theorem qd_best_all {S : Nat → Int32} {n F E K : Nat} {pc : Nat → Nat} {p l0 m0 c l m d : Nat}
    (h : qd_best S n F E K pc p l0 m0 c l m d) (hn : n < p + l0 + K) :
    ∀ a b, qd_feas S n K p a b → c ≤ qd_cost F E K pc p a b := by
  intro a b hf
  refine h.2.1 a b ?_ hf
  obtain ⟨g1, g2, g3⟩ := hf
  unfold qd_bef
  omega
def qd_PL (S : Nat → Int32) (n F E K T : Nat) (pc pl pm pd : Nat → Nat) (p : Nat) : Prop :=
  pc p ≤ 1000000 ∧ 1 ≤ pc p ∧
  (∀ a b, qd_feas S n K p a b → pc p ≤ qd_cost F E K pc p a b) ∧ (qd_fin n T p → pc p ≤ qd_hd F E (n - p)) ∧
  (pc p = 1000000 ∨
   (pm p = 0 ∧ pl p = n - p ∧ qd_fin n T p ∧ pc p = qd_hd F E (n - p) ∧ ∀ a b, qd_feas S n K p a b → pc p < qd_cost F E K pc p a b) ∨
   (qd_feas S n K p (pl p) (pm p) ∧ pc p < 1000000 ∧ pc p = qd_cost F E K pc p (pl p) (pm p) ∧ pd p = qd_D S (p + pl p) (pm p) ∧
     ∀ a b, qd_bef a b (pl p) (pm p) → qd_feas S n K p a b → pc p < qd_cost F E K pc p a b))
/-- the four tables with new entries at p -/
def qd_at (f : Nat → Nat) (p v : Nat) : Nat → Nat := fun j => if j = p then v else f j
theorem qd_at_s {f : Nat → Nat} {p v : Nat} : qd_at f p v p = v := if_pos rfl
theorem qd_at_n {f : Nat → Nat} {p v j : Nat} (h : j ≠ p) : qd_at f p v j = f j := if_neg h
theorem qd_cost_at {F E K : Nat} {pc : Nat → Nat} {p p' v l m : Nat} (h : p < p' + l + m) : qd_cost F E K (qd_at pc p v) p' l m = qd_cost F E K pc p' l m := by
  unfold qd_cost
  rw [qd_at_n (by omega)]
theorem qd_hd_pos (F E l : Nat) : 1 ≤ qd_hd F E l := by unfold qd_hd; omega
/-- the choice of the final sequence -/
theorem qd_PL_fin {S : Nat → Int32} {n F E K T : Nat} {pc pl pm pd : Nat → Nat} {p l0 m0 c l m d : Nat}
    (h : qd_best S n F E K pc p l0 m0 c l m d) (hn : n < p + l0 + K) (hK : 1 ≤ K) (hf : qd_fin n T p) (hc : qd_hd F E (n - p) < c) :
    qd_PL S n F E K T (qd_at pc p (qd_hd F E (n - p))) (qd_at pl p (n - p)) (qd_at pm p 0) (qd_at pd p 0) p := by
  have ha := qd_best_all h hn
  have h1 := h.1
  have hp := qd_hd_pos F E (n - p)
  have e : ∀ a b, qd_feas S n K p a b → qd_cost F E K (qd_at pc p (qd_hd F E (n - p))) p a b = qd_cost F E K pc p a b := by
    intro a b ⟨g1, g2, g3⟩
    exact qd_cost_at (by omega)
  unfold qd_PL
  rw [qd_at_s, qd_at_s, qd_at_s, qd_at_s]
  refine ⟨by omega, hp, fun a b g => ?_, fun _ => Nat.le_refl _, Or.inr (Or.inl ⟨rfl, rfl, hf, rfl, fun a b g => ?_⟩)⟩
  · rw [e a b g]; have := ha a b g; omega
  · rw [e a b g]; have := ha a b g; omega
/-- what was best stays -/
theorem qd_PL_best {S : Nat → Int32} {n F E K T : Nat} {pc pl pm pd : Nat → Nat} {p l0 m0 c l m d : Nat}
    (h : qd_best S n F E K pc p l0 m0 c l m d) (hn : n < p + l0 + K) (hK : 1 ≤ K) (hf : qd_fin n T p → c ≤ qd_hd F E (n - p)) :
    qd_PL S n F E K T (qd_at pc p c) (qd_at pl p l) (qd_at pm p m) (qd_at pd p d) p := by
  have ha := qd_best_all h hn
  have e : ∀ a b, qd_feas S n K p a b → qd_cost F E K (qd_at pc p c) p a b = qd_cost F E K pc p a b := by
    intro a b ⟨g1, g2, g3⟩
    exact qd_cost_at (by omega)
  obtain ⟨h1, h2, h3⟩ := h
  unfold qd_PL
  rw [qd_at_s, qd_at_s, qd_at_s, qd_at_s]
  refine ⟨h1, ?_, fun a b g => ?_, hf, ?_⟩
  · rcases h3 with h3 | ⟨g, h3, _⟩
    · omega
    · rw [h3]; unfold qd_cost qd_hd; omega
  · rw [e a b g]; exact ha a b g
  · rcases h3 with h3 | ⟨g, h3, h4, h5, h6⟩
    · exact Or.inl h3
    · refine Or.inr (Or.inr ⟨g, h4, ?_, h5, fun a b hb g' => ?_⟩)
      · rw [e l m g]; exact h3
      · rw [e a b g']; exact h6 a b hb g'
theorem qd_PL_at {S : Nat → Int32} {n F E K T : Nat} {pc pl pm pd : Nat → Nat} {p p' c l m d : Nat} (hp : p < p')
    (h : qd_PL S n F E K T pc pl pm pd p') : qd_PL S n F E K T (qd_at pc p c) (qd_at pl p l) (qd_at pm p m) (qd_at pd p d) p' := by
  have e : ∀ a b, qd_cost F E K (qd_at pc p c) p' a b = qd_cost F E K pc p' a b := fun a b => qd_cost_at (by omega)
  unfold qd_PL at h ⊢
  rw [qd_at_n (by omega), qd_at_n (by omega), qd_at_n (by omega), qd_at_n (by omega)]
  simp only [e]
  exact h
/-! the reference's table -/
def qd_yok (S : Nat → Int32) (n F E K : Nat) (en : Nat → Nat → Prop) (p c l m : Nat) : Prop :=
  qd_feas S n K p l m ∧ ∃ w, 0 < w ∧ qd_hd F E l + (2 + qd_ext F E (m - K)) + w = c ∧ en (p + l + m) w
def qd_yfin (n F E T p c : Nat) : Prop := qd_fin n T p ∧ qd_hd F E (n - p) = c
def qd_Loc (S : Nat → Int32) (n F E K T : Nat) (en : Nat → Nat → Prop) (c0 : Nat) : Prop :=
  ∀ p c, p ≤ n → 1 ≤ c → c ≤ c0 → (en p c ↔ (qd_yfin n F E T p c ∨ ∃ l m, qd_yok S n F E K en p c l m))
theorem qd_A {S : Nat → Int32} {n F E K T c0 : Nat} {pc pl pm pd : Nat → Nat} {en : Nat → Nat → Prop}
    (hP : ∀ p, p ≤ n → qd_PL S n F E K T pc pl pm pd p) (hL : qd_Loc S n F E K T en c0) :
    ∀ c p, p ≤ n → 1 ≤ c → c ≤ c0 → en p c → pc p ≤ c := by
  intro c
  induction c using Nat.strongRecOn with
  | ind c ih =>
    intro p hp h1 h2 he
    obtain ⟨_, _, q3, q4, _⟩ := hP p hp
    rcases (hL p c hp h1 h2).mp he with ⟨g1, g2⟩ | ⟨l, m, g, w, w0, w1, w2⟩
    · have := q4 g1
      omega
    · have a := q3 l m g
      have b := ih w (by omega) (p + l + m) g.2.1 w0 (by omega) w2
      unfold qd_cost at a
      omega
theorem qd_B {S : Nat → Int32} {n F E K T c0 : Nat} {pc pl pm pd : Nat → Nat} {en : Nat → Nat → Prop}
    (hP : ∀ p, p ≤ n → qd_PL S n F E K T pc pl pm pd p) (hL : qd_Loc S n F E K T en c0) (h0 : c0 < 1000000) :
    ∀ c p, p ≤ n → pc p = c → c ≤ c0 → en p c := by
  intro c
  induction c using Nat.strongRecOn with
  | ind c ih =>
    intro p hp h1 h2
    obtain ⟨_, q2, _, _, q5⟩ := hP p hp
    refine (hL p c hp (by omega) h2).mpr ?_
    rcases q5 with q5 | ⟨_, _, g3, g4, _⟩ | ⟨g, _, g3, _, _⟩
    · omega
    · exact Or.inl ⟨g3, by omega⟩
    · refine Or.inr ⟨pl p, pm p, g, pc (p + pl p + pm p), ?_, ?_, ?_⟩
      · exact (hP _ g.2.1).2.1
      · unfold qd_cost at g3; omega
      · have hh := qd_hd_pos F E (pl p)
        unfold qd_cost at g3
        exact ih _ (by omega) (p + pl p + pm p) g.2.1 rfl (by omega)
theorem qd_yok_iff {S : Nat → Int32} {n F E K T c0 : Nat} {pc pl pm pd : Nat → Nat} {en : Nat → Nat → Prop}
    (hP : ∀ p, p ≤ n → qd_PL S n F E K T pc pl pm pd p) (hL : qd_Loc S n F E K T en c0) (h0 : c0 < 1000000)
    {p : Nat} (hp : p ≤ n) (hc : pc p ≤ c0) (a b : Nat) :
    qd_yok S n F E K en p (pc p) a b ↔ (qd_feas S n K p a b ∧ qd_cost F E K pc p a b = pc p) := by
  constructor
  · intro ⟨g, w, w0, w1, w2⟩
    refine ⟨g, ?_⟩
    have h1 := qd_A hP hL w (p + a + b) g.2.1 w0 (by omega) w2
    have h2 := (hP p hp).2.2.1 a b g
    unfold qd_cost at h2 ⊢
    omega
  · intro ⟨g, e⟩
    have hh := qd_hd_pos F E a
    unfold qd_cost at e
    exact ⟨g, pc (p + a + b), (hP _ g.2.1).2.1, by omega, qd_B hP hL h0 _ (p + a + b) g.2.1 rfl (by omega)⟩
/-- the first among the cheapest is the first that fits -/
theorem qd_pick {S : Nat → Int32} {n F E K T c0 : Nat} {pc pl pm pd : Nat → Nat} {en : Nat → Nat → Prop}
    (hP : ∀ p, p ≤ n → qd_PL S n F E K T pc pl pm pd p) (hL : qd_Loc S n F E K T en c0) (h0 : c0 < 1000000)
    {p : Nat} (hp : p ≤ n) (hc : pc p ≤ c0) {l m : Nat} (h : qd_yok S n F E K en p (pc p) l m)
    (hf : ∀ a b, qd_bef a b l m → ¬ qd_yok S n F E K en p (pc p) a b) :
    pl p = l ∧ pm p = m ∧ pd p = qd_D S (p + l) m := by
  have iff := qd_yok_iff hP hL h0 hp hc
  obtain ⟨g, e⟩ := (iff l m).mp h
  rcases (hP p hp).2.2.2.2 with q5 | ⟨_, _, _, _, q5⟩ | ⟨g1, _, g3, g4, g5⟩
  · omega
  · have := q5 l m g
    omega
  · have n1 : ¬ qd_bef l m (pl p) (pm p) := fun z => by
      have := g5 l m z g
      omega
    have n2 : ¬ qd_bef (pl p) (pm p) l m := fun z => hf _ _ z ((iff _ _).mpr ⟨g1, g3.symm⟩)
    unfold qd_bef at n1 n2
    have e1 : pl p = l := by omega
    have e2 : pm p = m := by omega
    exact ⟨e1, e2, by rw [g4, e1, e2]⟩
theorem qd_pickF {S : Nat → Int32} {n F E K T c0 : Nat} {pc pl pm pd : Nat → Nat} {en : Nat → Nat → Prop}
    (hP : ∀ p, p ≤ n → qd_PL S n F E K T pc pl pm pd p) (hL : qd_Loc S n F E K T en c0) (h0 : c0 < 1000000)
    {p : Nat} (hp : p ≤ n) (hc : pc p ≤ c0)
    (hf : ∀ a b, ¬ qd_yok S n F E K en p (pc p) a b) : pl p = n - p ∧ pm p = 0 ∧ pc p = qd_hd F E (n - p) := by
  have iff := qd_yok_iff hP hL h0 hp hc
  rcases (hP p hp).2.2.2.2 with q5 | ⟨g1, g2, _, g4, _⟩ | ⟨g1, _, g3, _, _⟩
  · omega
  · exact ⟨g2, g1, g4⟩
  · exact absurd ((iff _ _).mpr ⟨g1, g3.symm⟩) (hf _ _)
/-- the shortest is the planned cost at the front -/
theorem qd_short {S : Nat → Int32} {n F E K T c0 : Nat} {pc pl pm pd : Nat → Nat} {en : Nat → Nat → Prop}
    (hP : ∀ p, p ≤ n → qd_PL S n F E K T pc pl pm pd p) (hL : qd_Loc S n F E K T en c0) (h0 : c0 < 1000000) (h1 : 1 ≤ c0)
    (he : en 0 c0) (hm : ∀ c, 1 ≤ c → c < c0 → ¬ en 0 c) : pc 0 = c0 := by
  have a := qd_A hP hL c0 0 (Nat.zero_le _) h1 (Nat.le_refl _) he
  have b := qd_B hP hL h0 (pc 0) 0 (Nat.zero_le _) rfl a
  have q := (hP 0 (Nat.zero_le _)).2.1
  by_cases c : pc 0 < c0
  · exact absurd b (hm _ q c)
  · omega
/-! bounds -/
theorem qd_ext_le {F E x : Nat} (hE : 2 ≤ E) : qd_ext F E x ≤ (x - F) / 2 + 1 := by
  unfold qd_ext
  have := Nat.div_le_div_left hE (by decide : 0 < 2) (a := x - F)
  split
  · omega
  · omega
theorem qd_ext16 {F E x : Nat} (hE : 2 ≤ E) (hF : 2 ≤ F) (hx : x ≤ 32) : qd_ext F E x ≤ 16 := by
  have := qd_ext_le (F := F) (x := x) hE
  omega
theorem qd_hd49 {F E l : Nat} (hE : 2 ≤ E) (hF : 2 ≤ F) (hl : l ≤ 32) : qd_hd F E l ≤ 49 := by
  have := qd_ext16 (F := F) (x := l) hE hF hl
  unfold qd_hd
  omega
theorem qd_ext_lt {F E x : Nat} (h : x < F) : qd_ext F E x = 0 := if_pos h
theorem qd_ext_ge {F E x : Nat} (h : F ≤ x) : qd_ext F E x = (x - F) / E + 1 := if_neg (by omega)
theorem qd_ext_i {F E x i : Nat} (hE : 0 < E) (h : F ≤ x) : i * E ≤ x - F ↔ i < qd_ext F E x := by
  rw [qd_ext_ge h, Nat.lt_add_one_iff, Nat.le_div_iff_mul_le hE]
/-! cells written in a row -/
def qd_fill (a : Nat → Int32) (b : Nat) (g : Nat → Int32) (k : Nat) : Nat → Int32 := fun j => if b ≤ j ∧ j < b + k then g (j - b) else a j
theorem qd_fill_0 (a : Nat → Int32) (b : Nat) (g : Nat → Int32) : qd_fill a b g 0 = a := by
  funext j
  exact if_neg (by omega)
theorem qd_fill_s (a : Nat → Int32) (b : Nat) (g : Nat → Int32) (k : Nat) : upd (qd_fill a b g k) (b + k) (g k) = qd_fill a b g (k + 1) := by
  funext j
  unfold upd qd_fill
  by_cases h : j = b + k
  · rw [if_pos h, if_pos (by omega), h, Nat.add_sub_cancel_left]
  · rw [if_neg h]
    by_cases h2 : b ≤ j ∧ j < b + k
    · rw [if_pos h2, if_pos (by omega)]
    · rw [if_neg h2, if_neg (by omega)]
theorem qd_fill_in {a : Nat → Int32} {b : Nat} {g : Nat → Int32} {k j : Nat} (h : j < k) : qd_fill a b g k (b + j) = g j := by
  unfold qd_fill
  rw [if_pos (by omega), Nat.add_sub_cancel_left]
theorem qd_fill_out {a : Nat → Int32} {b : Nat} {g : Nat → Int32} {k j : Nat} (h : j < b ∨ b + k ≤ j) : qd_fill a b g k j = a j := if_neg (by omega)
def qd_xg (F E x : Nat) (i : Nat) : Int32 := if i < (x - F) / E then nI E else nI ((x - F) % E)
/-- the bytes -/
def qd_by (a : Nat → Int32) : Prop := ∀ j, ∃ c, c < 256 ∧ a j = nI c
theorem qd_by_0 : qd_by (fun _ => 0) := fun _ => ⟨0, by decide, rfl⟩
theorem qd_by_u {a : Nat → Int32} {k c : Nat} (h : qd_by a) (hc : c < 256) : qd_by (upd a k (nI c)) := by
  intro j
  by_cases e : j = k
  · exact ⟨c, hc, by rw [e, pk_us]⟩
  · rw [pk_un e]; exact h j
theorem qd_by_u' {a : Nat → Int32} {k : Nat} {x : Int32} (h : qd_by a) (hc : ∃ c, c < 256 ∧ x = nI c) : qd_by (upd a k x) := by
  obtain ⟨c, hc, rfl⟩ := hc
  exact qd_by_u h hc
theorem qd_by_fill {a g : Nat → Int32} {b k : Nat} (h : qd_by a) (hg : ∀ i, i < k → ∃ c, c < 256 ∧ g i = nI c) : qd_by (qd_fill a b g k) := by
  intro j
  by_cases e : b ≤ j ∧ j < b + k
  · unfold qd_fill
    rw [if_pos e]
    exact hg _ (by omega)
  · unfold qd_fill
    rw [if_neg e]
    exact h j
theorem qd_255 (v : Int32) : ∃ c, c < 256 ∧ v &&& 255 = nI c := pk_andE v (m := 255) 8 (by decide)
theorem qd_and {c : Nat} (h : c < 256) : nI c &&& 255 = nI c := by
  rw [pk_andN (by omega) (m := 255) 8 (by decide)]
  exact congrArg nI (Nat.mod_eq_of_lt h)
theorem qd_and' {x : Int32} (h : ∃ c, c < 256 ∧ x = nI c) : x &&& 255 = x := by
  obtain ⟨c, hc, rfl⟩ := h
  exact qd_and hc
/-! the reference's search, option by option -/
def qd_none (S : Nat → Int32) (n F E K : Nat) (en : Nat → Nat → Prop) (p c l0 m0 : Nat) : Prop :=
  ∀ a b, qd_bef a b l0 m0 → ¬ qd_yok S n F E K en p c a b
theorem qd_none_0 {S : Nat → Int32} {n F E K : Nat} {en : Nat → Nat → Prop} {p c m0 : Nat} (h : n ≤ p + m0) : qd_none S n F E K en p c 0 m0 := by
  intro a b hb hy
  obtain ⟨⟨h1, h2, h3⟩, _⟩ := hy
  unfold qd_bef at hb
  omega
theorem qd_none_skip {S : Nat → Int32} {n F E K : Nat} {en : Nat → Nat → Prop} {p c l0 m0 : Nat} (h : qd_none S n F E K en p c l0 m0)
    (hs : ¬ qd_yok S n F E K en p c l0 m0) (h0 : 0 < m0) : qd_none S n F E K en p c l0 (m0 - 1) := by
  intro a b hb
  by_cases hh : qd_bef a b l0 m0
  · exact h a b hh
  · have e : a = l0 ∧ b = m0 := by
      unfold qd_bef at hb hh
      omega
    rw [e.1, e.2]
    exact hs
theorem qd_none_next {S : Nat → Int32} {n F E K : Nat} {en : Nat → Nat → Prop} {p c l0 m0 m1 : Nat} (h : qd_none S n F E K en p c l0 m0)
    (hK : m0 < K) (hn : n ≤ p + (l0 + 1) + m1) : qd_none S n F E K en p c (l0 + 1) m1 := by
  intro a b hb hy
  refine h a b ?_ hy
  obtain ⟨⟨h1, h2, h3⟩, _⟩ := hy
  unfold qd_bef at hb ⊢
  omega
theorem qd_none_all {S : Nat → Int32} {n F E K : Nat} {en : Nat → Nat → Prop} {p c l0 m0 : Nat} (h : qd_none S n F E K en p c l0 m0)
    (hn : n < p + l0 + K) : ∀ a b, ¬ qd_yok S n F E K en p c a b := by
  intro a b hy
  refine h a b ?_ hy
  obtain ⟨⟨h1, h2, h3⟩, _⟩ := hy
  unfold qd_bef
  omega
def qd_en (EN : Nat → Int32) (p c : Nat) : Prop := ¬ EN (p * 64 + c) = 0
def qd_rhs (S : Nat → Int32) (n F E K T : Nat) (en : Nat → Nat → Prop) (p c : Nat) : Prop := qd_yfin n F E T p c ∨ ∃ l m, qd_yok S n F E K en p c l m
theorem qd_yok_congr {S : Nat → Int32} {n F E K : Nat} {en en' : Nat → Nat → Prop} {p c l m : Nat} (h : ∀ q w, q ≤ n → w < c → (en q w ↔ en' q w)) :
    qd_yok S n F E K en p c l m ↔ qd_yok S n F E K en' p c l m := by
  constructor
  · intro ⟨g, w, w0, w1, w2⟩
    have hh := qd_hd_pos F E l
    exact ⟨g, w, w0, w1, (h _ _ g.2.1 (by omega)).mp w2⟩
  · intro ⟨g, w, w0, w1, w2⟩
    have hh := qd_hd_pos F E l
    exact ⟨g, w, w0, w1, (h _ _ g.2.1 (by omega)).mpr w2⟩
theorem qd_rhs_congr {S : Nat → Int32} {n F E K T : Nat} {en en' : Nat → Nat → Prop} {p c : Nat} (h : ∀ q w, q ≤ n → w < c → (en q w ↔ en' q w)) :
    qd_rhs S n F E K T en p c ↔ qd_rhs S n F E K T en' p c := by
  unfold qd_rhs
  simp only [qd_yok_congr h]
/-- columns below c hold; column c is filled up to p -/
def qd_col (S : Nat → Int32) (n F E K T : Nat) (EN : Nat → Int32) (c p : Nat) : Prop :=
  qd_Loc S n F E K T (qd_en EN) (c - 1) ∧ ∀ q, q < p → (qd_en EN q c ↔ qd_rhs S n F E K T (qd_en EN) q c)
theorem qd_col_s {S : Nat → Int32} {n F E K T : Nat} {EN : Nat → Int32} {c p : Nat} {v : Int32} (hn : n ≤ 32) (hc : 1 ≤ c) (hc2 : c < 64) (hp : p ≤ n)
    (h : qd_col S n F E K T EN c p) (hv : ¬ v = 0 ↔ qd_rhs S n F E K T (qd_en EN) p c) : qd_col S n F E K T (upd EN (p * 64 + c) v) c (p + 1) := by
  have ag : ∀ q w, w < c → (qd_en (upd EN (p * 64 + c) v) q w ↔ qd_en EN q w) := by
    intro q w hw
    unfold qd_en
    rw [pk_un (by omega)]
  have cg : ∀ q d, d ≤ c → (qd_rhs S n F E K T (qd_en (upd EN (p * 64 + c) v)) q d ↔ qd_rhs S n F E K T (qd_en EN) q d) :=
    fun q d hd => qd_rhs_congr (fun q' w _ hw => ag q' w (by omega))
  obtain ⟨h1, h2⟩ := h
  refine ⟨fun q d hq hd hdc => ?_, fun q hq => ?_⟩
  · have a := ag q d (by omega)
    have b := cg q d (by omega)
    unfold qd_rhs at b
    rw [a, b]
    exact h1 q d hq hd hdc
  · rw [cg q c (Nat.le_refl _)]
    by_cases e : q = p
    · rw [e, ← hv]
      unfold qd_en
      rw [pk_us]
    · rw [← h2 q (by omega)]
      unfold qd_en
      rw [pk_un (by omega)]
theorem qd_col_next {S : Nat → Int32} {n F E K T : Nat} {EN : Nat → Int32} {c : Nat} (hc : 1 ≤ c) (h : qd_col S n F E K T EN c (n + 1)) : qd_Loc S n F E K T (qd_en EN) c := by
  intro p d hp hd hdc
  by_cases e : d = c
  · rw [e]
    exact h.2 p (by omega)
  · exact h.1 p d hp hd (by omega)
theorem qd_col_0 {S : Nat → Int32} {n F E K T : Nat} {EN : Nat → Int32} {c : Nat} (h : qd_Loc S n F E K T (qd_en EN) (c - 1)) : qd_col S n F E K T EN c 0 :=
  ⟨h, fun q hq => absurd hq (by omega)⟩
theorem qd_Loc_0 {S : Nat → Int32} {n F E K T : Nat} {en : Nat → Nat → Prop} : qd_Loc S n F E K T en 0 := fun p c _ h1 h2 => absurd h2 (by omega)
theorem qd_Loc_end {S : Nat → Int32} {n F E K T c : Nat} {en : Nat → Nat → Prop} (h : qd_Loc S n F E K T en c) (hc : c = qd_hd F E n) (h1 : 1 ≤ c) : en 0 c :=
  (h 0 c (Nat.zero_le _) h1 (Nat.le_refl _)).mpr (Or.inl ⟨Or.inl rfl, by rw [Nat.sub_zero]; exact hc.symm⟩)
/-! every int is some nI; the same store twice -/
theorem qd_of32 (x : Int32) : ∃ n, x = nI n := by
  refine ⟨x.toBitVec.toNat, ?_⟩
  apply Int32.toBitVec_inj.mp
  apply BitVec.eq_of_toNat_eq
  show _ = (BitVec.ofNat 32 _).toNat
  rw [BitVec.toNat_ofNat]
  exact (Nat.mod_eq_of_lt x.toBitVec.isLt).symm
theorem qd_uu (f : Nat → Int32) (k : Nat) (x y : Int32) : upd (upd f k x) k y = upd f k y := by
  funext j
  unfold upd
  split <;> rfl
theorem qd_ue (f : Nat → Int32) (k : Nat) : upd f k (f k) = f := by
  funext j
  unfold upd
  split
  · rename_i h; rw [h]
  · rfl
