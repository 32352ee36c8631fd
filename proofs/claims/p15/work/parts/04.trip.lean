/-! a block that reads as SOURCE is no shorter than the plan; the planned block reads as SOURCE -/
theorem qp_ne {α : Type} {c : Nat} {x y : α} (hc : c ≠ 0) (h : (c, x) = (0, y)) : False := hc (congrArg Prod.fst h)
theorem qp_num {B : Nat → Int32} {E : Nat} (hE : 1 ≤ E) : ∀ g a x x' a', qr_num B E g a x = (0, x', a') → x ≤ x' ∧ a' = a + ((x' - x) / E + 1) := by
  intro g
  induction g with
  | zero => intro a x x' a' h; rw [qr_num] at h; exact (qp_ne (by decide) h).elim
  | succ g ih =>
    intro a x x' a' h
    rw [qr_num] at h
    by_cases h1 : E < qr_c B a
    · rw [if_pos h1] at h; exact (qp_ne (by decide) h).elim
    · rw [if_neg h1] at h
      by_cases h2 : qr_c B a < E
      · rw [if_pos h2] at h
        have e1 : x + qr_c B a = x' := congrArg (fun z => z.2.1) h
        have e2 : a + 1 = a' := congrArg (fun z => z.2.2) h
        have e3 : (x' - x) / E = 0 := Nat.div_eq_of_lt (by omega)
        omega
      · rw [if_neg h2] at h
        obtain ⟨i1, i2⟩ := ih _ _ _ _ h
        have e : x' - x = (x' - (x + qr_c B a)) + E := by omega
        have e3 : (x' - x) / E = (x' - (x + qr_c B a)) / E + 1 := by
          rw [e, Nat.add_div_right _ (by omega)]
        omega
theorem qp_number {B : Nat → Int32} {bl F E a f x' a' : Nat} (hE : 1 ≤ E) (hf : f ≤ F) (h : qr_number B bl F E a f = (0, x', a')) : a' = a + qd_ext F E x' := by
  unfold qr_number at h
  by_cases h1 : f < F
  · rw [if_pos h1] at h
    have e1 : f = x' := congrArg (fun z => z.2.1) h
    have e2 : a = a' := congrArg (fun z => z.2.2) h
    rw [qd_ext_lt (by omega)]
    omega
  · rw [if_neg h1] at h
    obtain ⟨i1, i2⟩ := qp_num hE _ _ _ _ _ h
    rw [qd_ext_ge (by omega), i2]
    have : f = F := by omega
    rw [this]
theorem qp_copy_k {res : Nat → Int32} {len d : Nat} : ∀ m i j, i ≤ m → j < len + i → qr_copy res len d m j = qr_copy res len d i j := by
  intro m
  induction m with
  | zero => intro i j hi _; have : i = 0 := by omega
            rw [this]
  | succ m ih =>
    intro i j hi hj
    by_cases e : i = m + 1
    · rw [e]
    · rw [qr_copy, pk_un (by omega)]
      exact ih i j (by omega) hj
theorem qp_copy_lo {res : Nat → Int32} {len d m j : Nat} (h : j < len) : qr_copy res len d m j = res j := qp_copy_k m 0 j (Nat.zero_le _) h
theorem qp_copy_r {res : Nat → Int32} {len d m i : Nat} (hi : i < m) (hd : 1 ≤ d) (hl : d ≤ len) : qr_copy res len d m (len + i) = qr_copy res len d m (len + i - d) := by
  rw [qp_copy_k m (i + 1) (len + i) (by omega) (by omega), qr_copy, pk_us, ← qp_copy_k m i (len + i - d) (by omega) (by omega)]
/-- what an accepted reading keeps -/
theorem qp_keep {B : Nat → Int32} {bl F E K T : Nat} : ∀ g s a len res n res', qr_read B bl F E K T g s a len res = (0, n, res') → len ≤ n ∧ ∀ j, j < len → res' j = res j := by
  intro g
  induction g with
  | zero => intro s a len res n res' h; rw [qr_read] at h; exact (qp_ne (by decide) h).elim
  | succ g ih =>
    intro s a len res n res' h
    rw [qr_read] at h
    generalize qr_number B bl F E (a + 1) (qr_c B a / 16) = nl at h
    split at h
    · exact (qp_ne (by decide) h).elim
    split at h
    · exact (qp_ne (by decide) h).elim
    unfold qr_l1 at h
    split at h
    · rename_i q; exact (qp_ne q h).elim
    split at h
    · exact (qp_ne (by decide) h).elim
    split at h
    · exact (qp_ne (by decide) h).elim
    have kf : ∀ j, j < len → qd_fill res len (fun i => B (nl.2.2 + i)) nl.2.1 j = res j := fun j hj => qd_fill_out (Or.inl hj)
    split at h
    · split at h
      · exact (qp_ne (by decide) h).elim
      · have e1 : len + nl.2.1 = n := congrArg (fun z => z.2.1) h
        have e2 : qd_fill res len (fun i => B (nl.2.2 + i)) nl.2.1 = res' := congrArg (fun z => z.2.2) h
        exact ⟨by omega, fun j hj => by rw [← e2]; exact kf j hj⟩
    · unfold qr_m1 at h
      split at h
      · exact (qp_ne (by decide) h).elim
      split at h
      · exact (qp_ne (by decide) h).elim
      generalize qr_number B bl F E (nl.2.2 + nl.2.1 + 2) (qr_c B a % 16) = nx at h
      unfold qr_m2 at h
      split at h
      · rename_i q; exact (qp_ne q h).elim
      split at h
      · exact (qp_ne (by decide) h).elim
      obtain ⟨i1, i2⟩ := ih _ _ _ _ _ _ h
      refine ⟨by omega, fun j hj => ?_⟩
      rw [i2 j (by omega), qp_copy_lo (by omega)]
      exact kf j hj
/-- the plan's cost is at most what is left of a block that reads as SOURCE -/
theorem qp_min {S B : Nat → Int32} {n bl F E K T : Nat} {pc pl pm pd : Nat → Nat} (hP : ∀ p, p ≤ n → qd_PL S n F E K T pc pl pm pd p) (hE : 1 ≤ E) (hB : qd_by B) (hb : bl ≤ 64) :
    ∀ g s a len res res', qr_read B bl F E K T g s a len res = (0, n, res') → (∀ j, j < n → res' j = S j) → (s = 0 → len = 0) → a ≤ bl ∧ pc len ≤ bl - a := by
  intro g
  induction g with
  | zero => intro s a len res res' h; rw [qr_read] at h; exact (qp_ne (by decide) h).elim
  | succ g ih =>
    intro s a len res res' h hr hs
    have hk := (qp_keep _ _ _ _ _ _ _ h).1
    rw [qr_read] at h
    split at h
    · exact (qp_ne (by decide) h).elim
    rename_i hab
    split at h
    · exact (qp_ne (by decide) h).elim
    rename_i hfld
    have nb := qr_number_b (bl := bl) (F := F) (E := E) (a := a + 1) (x := qr_c B a / 16) hB (by omega) hb
    have ne : ∀ x' a', qr_number B bl F E (a + 1) (qr_c B a / 16) = (0, x', a') → a' = a + 1 + qd_ext F E x' := fun x' a' e => qp_number hE (by omega) e
    generalize qr_number B bl F E (a + 1) (qr_c B a / 16) = nl at h nb ne
    obtain ⟨cd, l, a2⟩ := nl
    unfold qr_l1 at h
    dsimp only at h nb ne
    split at h
    · rename_i q; exact (qp_ne q h).elim
    rename_i hcd
    have hcd : cd = 0 := by omega
    have e2 := ne l a2 (by rw [hcd])
    split at h
    · exact (qp_ne (by decide) h).elim
    split at h
    · exact (qp_ne (by decide) h).elim
    rename_i hsh hov
    have hh : qd_hd F E l = 1 + qd_ext F E l + l := rfl
    refine ⟨by omega, ?_⟩
    split at h
    · rename_i hend
      split at h
      · exact (qp_ne (by decide) h).elim
      · rename_i hbad
        have e1 : len + l = n := congrArg (fun z => z.2.1) h
        have hf : qd_fin n T len := by
          unfold qd_fin
          by_cases hs0 : s = 0
          · exact Or.inl (hs hs0)
          · right
            have : ¬ (0 < s ∧ l < T) := fun z => hbad (Or.inr z)
            omega
        have := (hP len hk).2.2.2.1 hf
        have e3 : n - len = l := by omega
        rw [e3] at this
        omega
    · rename_i hend
      unfold qr_m1 at h
      split at h
      · exact (qp_ne (by decide) h).elim
      rename_i h2
      generalize hdd : qr_c B (a2 + l) + 256 * qr_c B (a2 + l + 1) = d at h
      split at h
      · exact (qp_ne (by decide) h).elim
      rename_i hd
      have mb := qr_number_b (bl := bl) (F := F) (E := E) (a := a2 + l + 2) (x := qr_c B a % 16) hB (by omega) hb
      have me : ∀ x' a', qr_number B bl F E (a2 + l + 2) (qr_c B a % 16) = (0, x', a') → a' = a2 + l + 2 + qd_ext F E x' := fun x' a' e => qp_number hE (by omega) e
      generalize qr_number B bl F E (a2 + l + 2) (qr_c B a % 16) = nx at h mb me
      obtain ⟨cx, x, a4⟩ := nx
      unfold qr_m2 at h
      dsimp only at h mb me
      split at h
      · rename_i q; exact (qp_ne q h).elim
      rename_i hcx
      have hcx : cx = 0 := by omega
      have e4 := me x a4 (by rw [hcx])
      split at h
      · exact (qp_ne (by decide) h).elim
      rename_i hov2
      obtain ⟨i1, i2⟩ := ih _ _ _ _ _ h hr (fun z => absurd z (by omega))
      obtain ⟨k1, k2⟩ := qp_keep _ _ _ _ _ _ _ h
      have hrep : qd_rep S (len + l) (K + x) d := by
        intro i hi
        rw [← hr _ (by omega), ← hr _ (by omega), k2 _ (by omega), k2 _ (by omega)]
        exact qp_copy_r hi (by omega) (by omega)
      have hD : 0 < qd_D S (len + l) (K + x) := by
        rcases qd_Ds S (len + l) (K + x) with ⟨_, z⟩ | ⟨z, _⟩
        · exact absurd hrep (z d (by omega) (by omega))
        · exact z
      have hc := (hP len hk).2.2.1 l (K + x) ⟨by omega, by omega, hD⟩
      unfold qd_cost at hc
      have e5 : K + x - K = x := by omega
      have e6 : len + l + (K + x) = len + l + K + x := by omega
      rw [e5] at hc
      omega
theorem qt_num {B : Nat → Int32} {E : Nat} (h2 : E ≤ 255) : ∀ k g a y r, r < E → (∀ i, i < k → B (a + i) = nI E) → B (a + k) = nI r → k < g → qr_num B E g a y = (0, y + k * E + r, a + k + 1) := by
  intro k
  induction k with
  | zero =>
    intro g a y r hr _ hB hg
    obtain ⟨g, rfl⟩ : ∃ g', g = g' + 1 := ⟨g - 1, by omega⟩
    have e : qr_c B a = r := by
      unfold qr_c
      rw [show B a = nI r from hB]
      exact nI_clamp (by omega)
    have e1 : y + 0 * E + r = y + r := by omega
    rw [qr_num, e, if_neg (by omega), if_pos hr, e1]
    all_goals rfl
  | succ k ih =>
    intro g a y r hr hE hB hg
    obtain ⟨g, rfl⟩ : ∃ g', g = g' + 1 := ⟨g - 1, by omega⟩
    have e : qr_c B a = E := by
      unfold qr_c
      rw [show B a = nI E from hE 0 (by omega)]
      exact nI_clamp (by omega)
    rw [qr_num, e, if_neg (by omega), if_neg (by omega)]
    rw [ih g (a + 1) (y + E) r hr (fun i hi => by rw [← hE (i + 1) (by omega)]; exact congrArg B (by omega)) (by rw [← hB]; exact congrArg B (by omega)) (by omega)]
    have e1 : y + E + k * E + r = y + (k + 1) * E + r := by rw [Nat.add_mul, Nat.one_mul]; omega
    have e2 : a + 1 + k + 1 = a + (k + 1) + 1 := by omega
    rw [e1, e2]
theorem qt_number {B : Nat → Int32} {bl F E a x : Nat} (h1 : 1 ≤ E) (h2 : E ≤ 255) (hb : a + qd_ext F E x ≤ bl) (hB : ∀ i, i < qd_ext F E x → B (a + i) = qd_xg F E x i) :
    qr_number B bl F E a (qw_fld F x) = (0, x, a + qd_ext F E x) := by
  unfold qr_number
  by_cases h : x < F
  · have e : qw_fld F x = x := if_pos h
    have e2 : a + qd_ext F E x = a := by have := qd_ext_lt (E := E) h; omega
    rw [e, if_pos h, e2]
  · have e : qw_fld F x = F := if_neg h
    have ee := qd_ext_ge (E := E) (show F ≤ x by omega)
    rw [ee] at hb hB
    rw [e, if_neg (by omega), ee]
    have k1 : ∀ i, i < (x - F) / E → B (a + i) = nI E := fun i hi => by
      rw [hB i (by omega)]
      exact if_pos hi
    have k2 : B (a + (x - F) / E) = nI ((x - F) % E) := by
      rw [hB _ (by omega)]
      exact if_neg (by omega)
    rw [qt_num h2 ((x - F) / E) (bl - a) a F ((x - F) % E) (Nat.mod_lt _ (by omega)) k1 k2 (by omega)]
    have := Nat.div_add_mod' (x - F) E
    have e1 : F + (x - F) / E * E + (x - F) % E = x := by omega
    rw [e1, Nat.add_assoc]
theorem qt_copy {S res : Nat → Int32} {q d : Nat} (h1 : 1 ≤ d) (h2 : d ≤ q) (hr : ∀ j, j < q → res j = S j) : ∀ m, qd_rep S q m d → ∀ j, j < q + m → qr_copy res q d m j = S j := by
  intro m
  induction m with
  | zero => intro _ j hj; exact hr j hj
  | succ m ih =>
    intro hp j hj
    have ih := ih (fun i hi => hp i (by omega))
    rw [qr_copy]
    by_cases e : j = q + m
    · rw [e, pk_us, ih _ (by omega), hp m (by omega)]
    · rw [pk_un e]
      exact ih j (by omega)
/-- the planned block reads as SOURCE -/
theorem qt_trip {S : Nat → Int32} {n F E K T : Nat} {pc pl pm pd : Nat → Nat} (hP : ∀ p, p ≤ n → qd_PL S n F E K T pc pl pm pd p) (hn : n ≤ 32) (hK : 1 ≤ K)
    (hS : qd_by S) (h1 : 1 ≤ E) (h2 : E ≤ 255) (hF : F ≤ 15) :
    ∀ g p b blk r s res, p ≤ n → pc p < 1000000 → n - p < g → pc p < r → (0 < s → 0 < p) → (∀ j, j < p → res j = S j) →
      ∃ res', qr_read (qw S F E K pl pm pd g p b blk).2 (b + pc p) F E K T r s b p res = (0, n, res') ∧ ∀ j, j < n → res' j = S j := by
  intro g
  induction g with
  | zero => intro p b blk r s res hp hc hg; omega
  | succ g ih =>
    intro p b blk r s res hp hc hg hr hs hres
    obtain ⟨r, rfl⟩ : ∃ r', r = r' + 1 := ⟨r - 1, by omega⟩
    have ok := qw_ok hP hn hK hS h1 h2 hF
    have q5 := (hP p hp).2.2.2.2
    have q2 := (hP p hp).2.1
    have hl : pl p ≤ n - p := by
      rcases q5 with q5 | ⟨_, g2, _⟩ | ⟨g1, _⟩
      · omega
      · omega
      · have := g1.2.1
        omega
    have tl := qw_tok_lt (F := F) (K := K) (l := pl p) (m := pm p) hF
    have hfl := qw_fld_le (F := F) (x := pl p)
    have hfm := qw_fld_le (F := F) (x := pm p - K)
    have hhd : qd_hd F E (pl p) = 1 + qd_ext F E (pl p) + pl p := rfl
    -- the cells of the head
    have hB : ∃ B : Nat → Int32, B = (qw S F E K pl pm pd (g + 1) p b blk).2 := ⟨_, rfl⟩
    obtain ⟨B, hB⟩ := hB
    have hH : ∀ j, j < b + qd_hd F E (pl p) → B j = qw_head S F E blk b p (pl p) (qw_tok F K (pl p) (pm p)) j := by
      intro j hj
      rw [hB, qw]
      by_cases hm : pm p = 0
      · rw [if_pos hm]
      · rw [if_neg hm]
        rcases q5 with q5 | ⟨g1, _⟩ | ⟨g1, g2, g3, g4, _⟩
        · omega
        · exact absurd g1 hm
        · have h4 := g1.2.1
          have h5 := g1.1
          unfold qd_cost at g3
          rw [(ok g _ _ _ g1.2.1 (by omega) (by omega)).2.2 j (by omega)]
          unfold qw_mat
          rw [qd_fill_out (by omega), pk_un (by omega), pk_un (by omega)]
    have c0 : qr_c B b = qw_tok F K (pl p) (pm p) := by
      unfold qr_c
      rw [hH b (by omega)]
      unfold qw_head
      rw [qd_fill_out (by omega), qd_fill_out (by omega), pk_us]
      exact nI_clamp (by omega)
    have c1 : ∀ i, i < qd_ext F E (pl p) → B (b + 1 + i) = qd_xg F E (pl p) i := by
      intro i hi
      rw [hH _ (by omega)]
      unfold qw_head
      rw [qd_fill_out (by omega), qd_fill_in hi]
    have c2 : ∀ i, i < pl p → B (b + 1 + qd_ext F E (pl p) + i) = S (p + i) := by
      intro i hi
      rw [hH _ (by omega)]
      unfold qw_head
      rw [qd_fill_in hi]
    have t1 : qw_tok F K (pl p) (pm p) / 16 = qw_fld F (pl p) := by
      unfold qw_tok
      split <;> omega
    have t2 : qw_tok F K (pl p) (pm p) % 16 = (if pm p = 0 then 0 else qw_fld F (pm p - K)) := by
      unfold qw_tok
      split <;> omega
    have t3 : ¬ (F < qw_fld F (pl p) ∨ F < (if pm p = 0 then 0 else qw_fld F (pm p - K))) := by
      split <;> omega
    rw [← hB, qr_read, if_neg (by omega), c0, t1, t2, if_neg t3]
    have hfill : ∀ j, j < p + pl p → qd_fill res p (fun i => B (b + 1 + qd_ext F E (pl p) + i)) (pl p) j = S j := by
      intro j hj
      by_cases e : j < p
      · rw [qd_fill_out (by omega)]; exact hres j e
      · obtain ⟨i, rfl⟩ : ∃ i, j = p + i := ⟨j - p, by omega⟩
        rw [qd_fill_in (by omega)]
        exact c2 i (by omega)
    rcases q5 with q5 | ⟨g1, g2, g3, g4, _⟩ | ⟨g1, g2, g3, g4, _⟩
    · omega
    · have hlen : qd_hd F E (pl p) = pc p := by rw [g2]; exact g4.symm
      rw [qt_number h1 h2 (by omega) c1]
      unfold qr_l1
      rw [if_neg (by simp), if_neg (by dsimp only; omega), if_neg (by dsimp only; omega), if_pos (by dsimp only; omega), if_neg (by
        dsimp only
        rw [if_pos g1]
        unfold qd_fin at g3
        omega)]
      dsimp only
      have e : p + pl p = n := by omega
      rw [e]
      rw [e] at hfill
      exact ⟨_, rfl, hfill⟩
    · have h4 := g1.2.1
      have h5 := g1.1
      have h6 := g1.2.2
      have hm : pm p ≠ 0 := by omega
      have hcn := (hP _ g1.2.1).2.1
      unfold qd_cost at g3
      rw [qt_number h1 h2 (by omega) c1]
      rw [if_neg hm]
      have hd1 : 1 ≤ pd p := by omega
      have hd2 : pd p ≤ p + pl p := by rw [g4]; exact qd_Dle _ _ _
      have hrep : qd_rep S (p + pl p) (pm p) (pd p) := by
        rcases qd_Ds S (p + pl p) (pm p) with ⟨z, _⟩ | ⟨_, _, z, _⟩
        · omega
        · rw [g4]; exact z
      have hM : ∀ j, j < b + qd_hd F E (pl p) + (2 + qd_ext F E (pm p - K)) → B j = qw_mat F E (qw_head S F E blk b p (pl p) (qw_tok F K (pl p) (pm p))) (b + qd_hd F E (pl p)) (pd p) (pm p - K) j := by
        intro j hj
        rw [hB, qw, if_neg hm, (ok g _ _ _ g1.2.1 (by omega) (by omega)).2.2 j (by omega)]
      have a3 : b + 1 + qd_ext F E (pl p) + pl p = b + qd_hd F E (pl p) := by omega
      have d0 : qr_c B (b + qd_hd F E (pl p)) = pd p % 256 := by
        unfold qr_c
        rw [hM _ (by omega)]
        unfold qw_mat
        rw [qd_fill_out (by omega), pk_un (by omega), pk_us]
        exact nI_clamp (by omega)
      have d1 : qr_c B (b + qd_hd F E (pl p) + 1) = pd p / 256 := by
        unfold qr_c
        rw [hM _ (by omega)]
        unfold qw_mat
        rw [qd_fill_out (by omega), pk_us]
        exact nI_clamp (by omega)
      have d2 : ∀ i, i < qd_ext F E (pm p - K) → B (b + qd_hd F E (pl p) + 2 + i) = qd_xg F E (pm p - K) i := by
        intro i hi
        rw [hM _ (by omega)]
        unfold qw_mat
        rw [qd_fill_in hi]
      have dd : pd p % 256 + 256 * (pd p / 256) = pd p := by omega
      unfold qr_l1
      rw [if_neg (by simp), if_neg (by dsimp only; omega), if_neg (by dsimp only; omega), if_neg (by dsimp only; omega)]
      dsimp only
      rw [a3]
      unfold qr_m1
      rw [d0, d1, dd, if_neg (by omega), if_neg (by omega)]
      rw [qt_number h1 h2 (by omega) d2]
      unfold qr_m2
      rw [if_neg (by simp), if_neg (by dsimp only; omega)]
      dsimp only
      have e1 : K + (pm p - K) = pm p := by omega
      rw [e1]
      have key := ih (p + pl p + pm p) (b + qd_hd F E (pl p) + (2 + qd_ext F E (pm p - K)))
        (qw_mat F E (qw_head S F E blk b p (pl p) (qw_tok F K (pl p) (pm p))) (b + qd_hd F E (pl p)) (pd p) (pm p - K)) r (s + 1)
        (qr_copy (qd_fill res p (fun i => B (b + 1 + qd_ext F E (pl p) + i)) (pl p)) (p + pl p) (pd p) (pm p)) g1.2.1 (by omega) (by omega) (by omega) (fun _ => by omega)
        (qt_copy hd1 hd2 hfill (pm p) hrep)
      have eB : (qw S F E K pl pm pd g (p + pl p + pm p) (b + qd_hd F E (pl p) + (2 + qd_ext F E (pm p - K)))
        (qw_mat F E (qw_head S F E blk b p (pl p) (qw_tok F K (pl p) (pm p))) (b + qd_hd F E (pl p)) (pd p) (pm p - K))).2 = B := by
        rw [hB, qw, if_neg hm]
      have el : b + qd_hd F E (pl p) + (2 + qd_ext F E (pm p - K)) + pc (p + pl p + pm p) = b + pc p := by omega
      have ea : b + qd_hd F E (pl p) + 2 + qd_ext F E (pm p - K) = b + qd_hd F E (pl p) + (2 + qd_ext F E (pm p - K)) := by omega
      rw [eB, el] at key
      rw [ea]
      exact key
/-- two plans of one SOURCE cost the same -/
theorem qt_uniq {S : Nat → Int32} {n F E K T : Nat} {pc pl pm pd pc' pl' pm' pd' : Nat → Nat} (hP : ∀ p, p ≤ n → qd_PL S n F E K T pc pl pm pd p)
    (hP' : ∀ p, p ≤ n → qd_PL S n F E K T pc' pl' pm' pd' p) (hK : 1 ≤ K) : ∀ w p, p + w = n → pc p ≤ pc' p := by
  intro w
  induction w using Nat.strongRecOn with
  | ind w ih =>
    intro p hw
    obtain ⟨a1, a2, a3, a4, _⟩ := hP p (by omega)
    obtain ⟨_, _, _, _, b5⟩ := hP' p (by omega)
    rcases b5 with b5 | ⟨_, _, g3, g4, _⟩ | ⟨g1, _, g3, _⟩
    · omega
    · rw [g4]; exact a4 g3
    · have t1 := a3 _ _ g1
      have h4 := g1.1
      have h5 := g1.2.1
      have t2 := ih (n - (p + pl' p + pm' p)) (by omega) (p + pl' p + pm' p) (by omega)
      unfold qd_cost at t1 g3
      omega
