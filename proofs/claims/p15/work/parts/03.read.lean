/-! the pure reader and the pure writer -/
def qr_c (B : Nat → Int32) (j : Nat) : Nat := (B j).toNatClampNeg
theorem qr_ce {B : Nat → Int32} (hB : qd_by B) (j : Nat) : B j = nI (qr_c B j) ∧ qr_c B j < 256 := by
  obtain ⟨c, hc, e⟩ := hB j
  have : qr_c B j = c := by unfold qr_c; rw [e]; exact nI_clamp (by omega)
  rw [this]
  exact ⟨e, hc⟩
def qr_num (B : Nat → Int32) (E : Nat) : Nat → Nat → Nat → Nat × Nat × Nat
  | 0, a, x => (3, x, a)
  | g + 1, a, x => if E < qr_c B a then (5, x, a + 1) else if qr_c B a < E then (0, x + qr_c B a, a + 1) else qr_num B E g (a + 1) (x + qr_c B a)
def qr_number (B : Nat → Int32) (bl F E a x : Nat) : Nat × Nat × Nat := if x < F then (0, x, a) else qr_num B E (bl - a) a x
def qr_copy (res : Nat → Int32) (len d : Nat) : Nat → (Nat → Int32)
  | 0 => res
  | i + 1 => upd (qr_copy res len d i) (len + i) (qr_copy res len d i (len + i - d))
abbrev qr_R : Type := Nat × Nat × (Nat → Int32)
def qr_m2 (K : Nat) (k : Nat → Nat → (Nat → Int32) → qr_R) (len d : Nat) (res : Nat → Int32) (nx : Nat × Nat × Nat) : qr_R :=
  if nx.1 ≠ 0 then (nx.1, len, res) else if 32 - len < K + nx.2.1 then (6, len, res) else k nx.2.2 (len + (K + nx.2.1)) (qr_copy res len d (K + nx.2.1))
def qr_m1 (B : Nat → Int32) (bl F E K : Nat) (k : Nat → Nat → (Nat → Int32) → qr_R) (a len mf : Nat) (res : Nat → Int32) : qr_R :=
  if bl - a < 2 then (3, len, res) else if qr_c B a + 256 * qr_c B (a + 1) = 0 ∨ len < qr_c B a + 256 * qr_c B (a + 1) then (8, len, res)
  else qr_m2 K k len (qr_c B a + 256 * qr_c B (a + 1)) res (qr_number B bl F E (a + 2) mf)
def qr_l1 (B : Nat → Int32) (bl F E K T : Nat) (k : Nat → Nat → (Nat → Int32) → qr_R) (s len mf : Nat) (res : Nat → Int32) (nl : Nat × Nat × Nat) : qr_R :=
  if nl.1 ≠ 0 then (nl.1, len, res) else if bl - nl.2.2 < nl.2.1 then (3, len, res) else if 32 - len < nl.2.1 then (6, len, res)
  else if bl ≤ nl.2.2 + nl.2.1 then
    (if mf ≠ 0 ∨ (0 < s ∧ nl.2.1 < T) then (7, len + nl.2.1, qd_fill res len (fun i => B (nl.2.2 + i)) nl.2.1) else (0, len + nl.2.1, qd_fill res len (fun i => B (nl.2.2 + i)) nl.2.1))
  else qr_m1 B bl F E K k (nl.2.2 + nl.2.1) (len + nl.2.1) mf (qd_fill res len (fun i => B (nl.2.2 + i)) nl.2.1)
def qr_read (B : Nat → Int32) (bl F E K T : Nat) : Nat → Nat → Nat → Nat → (Nat → Int32) → qr_R
  | 0, _, _, len, res => (3, len, res)
  | g + 1, s, a, len, res => if bl ≤ a then (3, len, res) else if F < qr_c B a / 16 ∨ F < qr_c B a % 16 then (4, len, res)
    else qr_l1 B bl F E K T (fun a' len' res' => qr_read B bl F E K T g (s + 1) a' len' res') s len (qr_c B a % 16) res (qr_number B bl F E (a + 1) (qr_c B a / 16))
/-- the answer as the program gives it -/
def qr_ans (code v : Nat) : Int32 := if code = 0 then nI v else -nI code
theorem qr_ans0 (v : Nat) : qr_ans 0 v = nI v := if_pos rfl
theorem qr_ansn {c v : Nat} (h : c ≠ 0) : qr_ans c v = -nI c := if_neg h
theorem qr_neg {c : Nat} (h : c ≠ 0) (h8 : c ≤ 8) : -nI c < 0 := by
  have : ∀ c, c ≤ 8 → c ≠ 0 → -nI c < 0 := by decide
  exact this c h8 h
theorem qr_ans_neg {c v : Nat} (h : c ≠ 0) (h8 : c ≤ 8) : qr_ans c v < 0 := by
  rw [qr_ansn h]
  exact qr_neg h h8
theorem qr_num_b {B : Nat → Int32} {E : Nat} (hB : qd_by B) : ∀ g a x, ((qr_num B E g a x).1 = 0 ∨ (qr_num B E g a x).1 = 3 ∨ (qr_num B E g a x).1 = 5) ∧ a ≤ (qr_num B E g a x).2.2 ∧ (qr_num B E g a x).2.2 ≤ a + g ∧ (qr_num B E g a x).2.1 ≤ x + 256 * g := by
  intro g
  induction g with
  | zero => intro a x; exact ⟨Or.inr (Or.inl rfl), Nat.le_refl _, Nat.le_refl _, Nat.le_refl _⟩
  | succ g ih =>
    intro a x
    have hc := (qr_ce hB a).2
    rw [qr_num]
    by_cases h1 : E < qr_c B a
    · rw [if_pos h1]
      exact ⟨Or.inr (Or.inr rfl), by dsimp only; omega, by dsimp only; omega, by dsimp only; omega⟩
    · rw [if_neg h1]
      by_cases h2 : qr_c B a < E
      · rw [if_pos h2]
        exact ⟨Or.inl rfl, by dsimp only; omega, by dsimp only; omega, by dsimp only; omega⟩
      · rw [if_neg h2]
        obtain ⟨q1, q2, q3, q4⟩ := ih (a + 1) (x + qr_c B a)
        exact ⟨q1, by omega, by omega, by omega⟩
theorem qr_number_b {B : Nat → Int32} {bl F E a x : Nat} (hB : qd_by B) (ha : a ≤ bl) (hb : bl ≤ 64) : ((qr_number B bl F E a x).1 = 0 ∨ (qr_number B bl F E a x).1 = 3 ∨ (qr_number B bl F E a x).1 = 5) ∧ a ≤ (qr_number B bl F E a x).2.2 ∧ (qr_number B bl F E a x).2.2 ≤ bl ∧ (qr_number B bl F E a x).2.1 ≤ x + 16384 := by
  unfold qr_number
  by_cases h : x < F
  · rw [if_pos h]
    exact ⟨Or.inl rfl, Nat.le_refl _, ha, by dsimp only; omega⟩
  · rw [if_neg h]
    obtain ⟨q1, q2, q3, q4⟩ := qr_num_b (E := E) hB (bl - a) a x
    exact ⟨q1, q2, by omega, by omega⟩
theorem qr_by_copy {res : Nat → Int32} {len d : Nat} (h : qd_by res) : ∀ m, qd_by (qr_copy res len d m) := by
  intro m
  induction m with
  | zero => exact h
  | succ m ih => exact qd_by_u' ih (ih _)
/-! the writer -/
def qw_fld (F x : Nat) : Nat := if x < F then x else F
theorem qw_fld_le {F x : Nat} : qw_fld F x ≤ F := by unfold qw_fld; split <;> omega
def qw_tok (F K l m : Nat) : Nat := 16 * qw_fld F l + (if m = 0 then 0 else qw_fld F (m - K))
theorem qw_tok_lt {F K l m : Nat} (hF : F ≤ 15) : qw_tok F K l m < 256 := by
  unfold qw_tok
  have h1 := qw_fld_le (F := F) (x := l)
  have h2 := qw_fld_le (F := F) (x := m - K)
  split <;> omega
def qw_head (S : Nat → Int32) (F E : Nat) (blk : Nat → Int32) (b p l tok : Nat) : Nat → Int32 :=
  qd_fill (qd_fill (upd blk b (nI tok)) (b + 1) (qd_xg F E l) (qd_ext F E l)) (b + 1 + qd_ext F E l) (fun i => S (p + i)) l
def qw_mat (F E : Nat) (blk : Nat → Int32) (b d x : Nat) : Nat → Int32 :=
  qd_fill (upd (upd blk b (nI (d % 256))) (b + 1) (nI (d / 256))) (b + 2) (qd_xg F E x) (qd_ext F E x)
def qw (S : Nat → Int32) (F E K : Nat) (pl pm pd : Nat → Nat) : Nat → Nat → Nat → (Nat → Int32) → Nat × (Nat → Int32)
  | 0, _, b, blk => (b, blk)
  | g + 1, p, b, blk => if pm p = 0 then (b + qd_hd F E (pl p), qw_head S F E blk b p (pl p) (qw_tok F K (pl p) (pm p)))
    else qw S F E K pl pm pd g (p + pl p + pm p) (b + qd_hd F E (pl p) + (2 + qd_ext F E (pm p - K)))
      (qw_mat F E (qw_head S F E blk b p (pl p) (qw_tok F K (pl p) (pm p))) (b + qd_hd F E (pl p)) (pd p) (pm p - K))
theorem qd_xg_by {F E x i : Nat} (h1 : 1 ≤ E) (h2 : E ≤ 255) : ∃ c, c < 256 ∧ qd_xg F E x i = nI c := by
  unfold qd_xg
  split
  · exact ⟨E, by omega, rfl⟩
  · exact ⟨(x - F) % E, by have := Nat.mod_lt (x - F) (y := E) (by omega); omega, rfl⟩
theorem qw_head_by {S : Nat → Int32} {F E : Nat} {blk : Nat → Int32} {b p l tok : Nat} (hS : qd_by S) (hb : qd_by blk) (h1 : 1 ≤ E) (h2 : E ≤ 255) (ht : tok < 256) : qd_by (qw_head S F E blk b p l tok) :=
  qd_by_fill (qd_by_fill (qd_by_u hb ht) (fun _ _ => qd_xg_by h1 h2)) (fun i _ => hS (p + i))
theorem qw_mat_by {F E : Nat} {blk : Nat → Int32} {b d x : Nat} (hb : qd_by blk) (h1 : 1 ≤ E) (h2 : E ≤ 255) (hd : d < 65536) : qd_by (qw_mat F E blk b d x) :=
  qd_by_fill (qd_by_u (qd_by_u hb (by omega)) (by omega)) (fun _ _ => qd_xg_by h1 h2)
theorem qw_ok {S : Nat → Int32} {n F E K T : Nat} {pc pl pm pd : Nat → Nat} (hP : ∀ p, p ≤ n → qd_PL S n F E K T pc pl pm pd p) (hn : n ≤ 32) (hK : 1 ≤ K)
    (hS : qd_by S) (h1 : 1 ≤ E) (h2 : E ≤ 255) (hF : F ≤ 15) :
    ∀ g p b blk, p ≤ n → pc p < 1000000 → n - p < g → (qw S F E K pl pm pd g p b blk).1 = b + pc p ∧ (qd_by blk → qd_by (qw S F E K pl pm pd g p b blk).2) ∧ (∀ j, j < b → (qw S F E K pl pm pd g p b blk).2 j = blk j) := by
  intro g
  induction g with
  | zero => intro p b blk hp hc hg; omega
  | succ g ih =>
    intro p b blk hp hc hg
    have q5 := (hP p hp).2.2.2.2
    have kh : ∀ j, j < b → qw_head S F E blk b p (pl p) (qw_tok F K (pl p) (pm p)) j = blk j := by
      intro j hj
      unfold qw_head
      rw [qd_fill_out (by omega), qd_fill_out (by omega), pk_un (by omega)]
    rcases q5 with q5 | ⟨g1, g2, g3, g4, _⟩ | ⟨g1, g2, g3, g4, _⟩
    · omega
    · have e : qw S F E K pl pm pd (g + 1) p b blk = (b + qd_hd F E (pl p), qw_head S F E blk b p (pl p) (qw_tok F K (pl p) (pm p))) := by
        rw [qw, if_pos g1]
      rw [e]
      exact ⟨by rw [g4, g2], fun h => qw_head_by hS h h1 h2 (qw_tok_lt hF), kh⟩
    · have hm := g1.1
      have e : qw S F E K pl pm pd (g + 1) p b blk = qw S F E K pl pm pd g (p + pl p + pm p) (b + qd_hd F E (pl p) + (2 + qd_ext F E (pm p - K)))
          (qw_mat F E (qw_head S F E blk b p (pl p) (qw_tok F K (pl p) (pm p))) (b + qd_hd F E (pl p)) (pd p) (pm p - K)) := by
        rw [qw, if_neg (by omega)]
      have hh := qd_hd_pos F E (pl p)
      have hd := qd_Dle S (p + pl p) (pm p)
      have h4 := g1.2.1
      unfold qd_cost at g3
      obtain ⟨i1, i2, i3⟩ := ih (p + pl p + pm p) (b + qd_hd F E (pl p) + (2 + qd_ext F E (pm p - K)))
          (qw_mat F E (qw_head S F E blk b p (pl p) (qw_tok F K (pl p) (pm p))) (b + qd_hd F E (pl p)) (pd p) (pm p - K)) g1.2.1 (by omega) (by omega)
      rw [e]
      refine ⟨by rw [i1]; omega, fun h => i2 (qw_mat_by (qw_head_by hS h h1 h2 (qw_tok_lt hF)) h1 h2 (by omega)), fun j hj => ?_⟩
      rw [i3 j (by omega)]
      unfold qw_mat
      rw [qd_fill_out (by omega), pk_un (by omega), pk_un (by omega)]
      exact kh j hj
