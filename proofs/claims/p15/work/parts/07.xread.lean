/-! the component's reader against the pure reader -/
theorem qr_nn {c v : Nat} (h : c ≠ 0) (h8 : c ≤ 8) : ¬ (0 : Int32) ≤ qr_ans c v := Int32.not_le.mpr (qr_ans_neg h h8)
section
variable {F E K T n bl ol : Nat} {rl cu : Int32} {S B O R PC PL PM PD : Nat → Int32}
theorem qx_rc0 {post : Int32 → St2 → Prop} {a : Nat} (ha : a < bl) (hb : bl ≤ 64) (h : post (B a) (nI F, nI E, nI K, nI T, nI n, nI bl, nI ol, rl, nI (a + 1), S, B, O, R, PC, PL, PM, PD)) : wpX_readCell post (nI F, nI E, nI K, nI T, nI n, nI bl, nI ol, rl, nI a, S, B, O, R, PC, PL, PM, PD) :=
  br_t (nI_lt ha (by omega)) ⟨vp_in_nI (by omega) (by decide), nm_r (qx_g (a := B)) (nm_r (nI_1 a) h)⟩
theorem qx_rc {post : Int32 → St2 → Prop} {a : Nat} (hB : qd_by B) (ha : a < bl) (hb : bl ≤ 64) (h : post (nI (qr_c B a)) (nI F, nI E, nI K, nI T, nI n, nI bl, nI ol, rl, nI (a + 1), S, B, O, R, PC, PL, PM, PD)) : wpX_readCell post (nI F, nI E, nI K, nI T, nI n, nI bl, nI ol, rl, nI a, S, B, O, R, PC, PL, PM, PD) := by
  rw [← (qr_ce hB a).1] at h
  exact qx_rc0 ha hb h
theorem qx_rn14 {post : Int32 → St2 → Prop} (hB : qd_by B) (hb : bl ≤ 64) (hE2 : E ≤ 255) :
    ∀ g a x s, a + g = bl → s ≤ a → x + 256 * g < 1000000 → post (qr_ans (qr_num B E g a x).1 (qr_num B E g a x).2.1) (nI F, nI E, nI K, nI T, nI n, nI bl, nI ol, rl, nI (qr_num B E g a x).2.2, S, B, O, R, PC, PL, PM, PD) →
      ∀ f, g < f → wX_readNumber_14 post f (nI x) (nI s) (nI F) (nI E) (nI K) (nI T) (nI n) (nI bl) (nI ol) rl (nI a) S B O R PC PL PM PD := by
  intro g
  induction g with
  | zero =>
    intro a x s ha hs hx h f hf
    obtain ⟨f, rfl⟩ : ∃ f', f = f' + 1 := ⟨f - 1, by omega⟩
    exact br_f (nI_nlt (by omega) (by omega)) (br_f (nI_nlt (by omega) (by omega)) h)
  | succ g ih =>
    intro a x s ha hs hx h f hf
    obtain ⟨f, rfl⟩ : ∃ f', f = f' + 1 := ⟨f - 1, by omega⟩
    have hc := (qr_ce hB a).2
    refine br_f (nI_nlt (by omega) (by omega)) (br_t (nI_lt (by omega) (by omega)) (qx_rc hB (by omega) hb ?_))
    rw [qr_num] at h
    by_cases c1 : E < qr_c B a
    · rw [if_pos c1] at h
      exact br_f (nI_ge c1 (by omega)) h
    · rw [if_neg c1] at h
      refine br_t (nI_le (by omega) (by omega)) (nm_r (nI_add x _) ?_)
      by_cases c2 : qr_c B a < E
      · rw [if_pos c2] at h
        exact br_f (nI_ge c2 (by omega)) h
      · rw [if_neg c2] at h
        exact br_t (nI_le (by omega) (by omega)) (nm_r (nI_1 s) (ih (a + 1) (x + qr_c B a) (s + 1) (by omega) (by omega) (by omega) h f (by omega)))
theorem qx_rn {post : Int32 → St2 → Prop} {a x : Nat} (hB : qd_by B) (hb : bl ≤ 64) (hE2 : E ≤ 255) (hF : F ≤ 15) (ha : a ≤ bl) (hx : x ≤ 255)
    (h : post (qr_ans (qr_number B bl F E a x).1 (qr_number B bl F E a x).2.1) (nI F, nI E, nI K, nI T, nI n, nI bl, nI ol, rl, nI (qr_number B bl F E a x).2.2, S, B, O, R, PC, PL, PM, PD)) : wpX_readNumber post (nI F, nI E, nI K, nI T, nI n, nI bl, nI ol, rl, nI a, S, B, O, R, PC, PL, PM, PD) (nI x) := by
  unfold qr_number at h
  by_cases c : x < F
  · rw [if_pos c] at h
    exact br_f (nI_ge c (by omega)) h
  · rw [if_neg c] at h
    exact br_t (nI_le (by omega) (by omega)) ⟨bl + 1, qx_rn14 hB hb hE2 (bl - a) a x 0 (by omega) (by omega) (by omega) h (bl + 1) (by omega)⟩
theorem qx_appR {post : St2 → Prop} {len : Nat} {c : Int32} (hl : len < 32) (h : post (nI F, nI E, nI K, nI T, nI n, nI bl, nI ol, nI (len + 1), cu, S, B, O, upd R len c, PC, PL, PM, PD)) : wpX_appendToResult post (nI F, nI E, nI K, nI T, nI n, nI bl, nI ol, nI len, cu, S, B, O, R, PC, PL, PM, PD) c :=
  br_f (nI_ge (b := 32) hl (by decide)) ⟨vp_in_nI hl (by decide), nm_r qx_u (nm_r (nI_1 len) h)⟩
theorem qx_rl32 {post : Int32 → St2 → Prop} {l a len : Nat} (hb : bl ≤ 64) (ha : a + l ≤ bl) (hl : len + l ≤ 32)
    (h : post (nI l) (nI F, nI E, nI K, nI T, nI n, nI bl, nI ol, nI (len + l), nI (a + l), S, B, O, qd_fill R len (fun i => B (a + i)) l, PC, PL, PM, PD)) :
    ∀ k i, i + k = l → ∀ f, k < f → wX_readLiterals_32 post (nI l) f (nI i) (nI F) (nI E) (nI K) (nI T) (nI n) (nI bl) (nI ol) (nI (len + i)) (nI (a + i)) S B O (qd_fill R len (fun i => B (a + i)) i) PC PL PM PD := by
  intro k
  induction k with
  | zero =>
    intro i hi f hf
    obtain ⟨f, rfl⟩ : ∃ f', f = f' + 1 := ⟨f - 1, by omega⟩
    have e : i = l := by omega
    rw [e]
    exact br_t (nI_le (by omega) (by omega)) h
  | succ k ih =>
    intro i hi f hf
    obtain ⟨f, rfl⟩ : ∃ f', f = f' + 1 := ⟨f - 1, by omega⟩
    refine br_f (nI_ge (by omega) (by omega)) (qx_rc0 (by omega) hb (qx_appR (by omega) (nm_r (nI_1 i) ?_)))
    have key := ih (i + 1) (by omega) f (by omega)
    rw [← qd_fill_s] at key
    exact key
theorem qx_rl {post : Int32 → St2 → Prop} {l a len : Nat} (hb : bl ≤ 64) (ha : a ≤ bl) (hl : len ≤ 32) (hx : l < 1000000)
    (h3 : bl - a < l → post (-3) (nI F, nI E, nI K, nI T, nI n, nI bl, nI ol, nI len, nI a, S, B, O, R, PC, PL, PM, PD)) (h6 : ¬ bl - a < l → 32 - len < l → post (-6) (nI F, nI E, nI K, nI T, nI n, nI bl, nI ol, nI len, nI a, S, B, O, R, PC, PL, PM, PD))
    (h : ¬ bl - a < l → ¬ 32 - len < l → post (nI l) (nI F, nI E, nI K, nI T, nI n, nI bl, nI ol, nI (len + l), nI (a + l), S, B, O, qd_fill R len (fun i => B (a + i)) l, PC, PL, PM, PD)) :
    wpX_readLiterals post (nI F, nI E, nI K, nI T, nI n, nI bl, nI ol, nI len, nI a, S, B, O, R, PC, PL, PM, PD) (nI l) := by
  have e1 : nI bl - nI a = nI (bl - a) := pk_sub ha
  have e2 : (32 : Int32) - nI len = nI (32 - len) := pk_sub (a := 32) hl
  by_cases c1 : bl - a < l
  · exact br_f (by rw [e1]; exact nI_ge c1 (by omega)) (h3 c1)
  · refine br_t (by rw [e1]; exact nI_le (by omega) (by omega)) ?_
    by_cases c2 : 32 - len < l
    · exact br_f (by rw [e2]; exact nI_ge c2 (by omega)) (h6 c1 c2)
    · have key := qx_rl32 (R := R) hb (by omega) (by omega) (h c1 c2) l 0 (by omega) (l + 1) (by omega)
      rw [qd_fill_0] at key
      exact br_t (by rw [e2]; exact nI_le (by omega) (by omega)) ⟨_, key⟩
theorem qx_rm94 {post : Int32 → St2 → Prop} {d m len : Nat} (hd : 1 ≤ d) (hd2 : d ≤ len) (hm : len + m ≤ 32) (h : post (nI m) (nI F, nI E, nI K, nI T, nI n, nI bl, nI ol, nI (len + m), cu, S, B, O, qr_copy R len d m, PC, PL, PM, PD)) :
    ∀ k i, i + k = m → ∀ f, k < f → wX_readMatch_94 post (nI d) (nI m) f (nI i) (nI F) (nI E) (nI K) (nI T) (nI n) (nI bl) (nI ol) (nI (len + i)) cu S B O (qr_copy R len d i) PC PL PM PD := by
  intro k
  induction k with
  | zero =>
    intro i hi f hf
    obtain ⟨f, rfl⟩ : ∃ f', f = f' + 1 := ⟨f - 1, by omega⟩
    have e : i = m := by omega
    rw [e]
    exact br_t (nI_le (by omega) (by omega)) h
  | succ k ih =>
    intro i hi f hf
    obtain ⟨f, rfl⟩ : ∃ f', f = f' + 1 := ⟨f - 1, by omega⟩
    have es : nI (len + i) - nI d = nI (len + i - d) := pk_sub (by omega)
    refine br_f (nI_ge (by omega) (by omega)) ⟨by rw [es]; exact vp_in_nI (by omega) (by decide), ?_⟩
    rw [es, nI_clamp (by omega)]
    exact qx_appR (by omega) (nm_r (nI_1 i) (ih (i + 1) (by omega) f (by omega)))
theorem qx_rm {post : Int32 → St2 → Prop} {k : Nat → Nat → (Nat → Int32) → qr_R} {a len mf : Nat} (hB : qd_by B) (hb : bl ≤ 64) (hE2 : E ≤ 255) (hF : F ≤ 15) (hK : K ≤ 6) (ha : a ≤ bl) (hl : len ≤ 32) (hf : mf ≤ 15)
    (hbad : ∀ c cu, c ≠ 0 → c ≤ 8 → qr_m1 B bl F E K k a len mf R = (c, len, R) → post (-nI c) (nI F, nI E, nI K, nI T, nI n, nI bl, nI ol, nI len, cu, S, B, O, R, PC, PL, PM, PD))
    (hok : ∀ m a' R', qr_m1 B bl F E K k a len mf R = k a' (len + m) R' → a + 2 ≤ a' → a' ≤ bl → len + m ≤ 32 → post (nI m) (nI F, nI E, nI K, nI T, nI n, nI bl, nI ol, nI (len + m), nI a', S, B, O, R', PC, PL, PM, PD)) :
    wpX_readMatch post (nI F, nI E, nI K, nI T, nI n, nI bl, nI ol, nI len, nI a, S, B, O, R, PC, PL, PM, PD) (nI mf) := by
  have e1 : nI bl - nI a = nI (bl - a) := pk_sub ha
  have h0 := (qr_ce hB a).2
  have h1 := (qr_ce hB (a + 1)).2
  by_cases c1 : bl - a < 2
  · exact br_f (by rw [e1]; exact nI_ge (b := 2) c1 (by decide)) (hbad 3 _ (by decide) (by decide) (by unfold qr_m1; rw [if_pos c1]))
  · refine br_t (by rw [e1]; exact nI_le (a := 2) (by omega) (by omega)) (qx_rc hB (by omega) hb (qx_rc hB (by omega) hb (nm_r (e' := nI (qr_c B a + 256 * qr_c B (a + 1))) ?_ ?_)))
    · rw [show (256 : Int32) * nI (qr_c B (a + 1)) = nI (256 * qr_c B (a + 1)) from pk_mul 256 _, nI_add]
    · by_cases c2 : qr_c B a + 256 * qr_c B (a + 1) = 0
      · rw [c2]
        exact br_t rfl (hbad 8 _ (by decide) (by decide) (by unfold qr_m1; rw [if_neg c1, if_pos (Or.inl c2)]))
      · refine br_f (nI_ne0 (by omega) (by omega)) ?_
        by_cases c3 : len < qr_c B a + 256 * qr_c B (a + 1)
        · exact br_f (nI_ge c3 (by omega)) (hbad 8 _ (by decide) (by decide) (by unfold qr_m1; rw [if_neg c1, if_pos (Or.inr c3)]))
        · have em : qr_m1 B bl F E K k a len mf R = qr_m2 K k len (qr_c B a + 256 * qr_c B (a + 1)) R (qr_number B bl F E (a + 2) mf) := by
            unfold qr_m1
            rw [if_neg c1, if_neg (by omega)]
          rw [em] at hbad hok
          have nb := qr_number_b (bl := bl) (F := F) (E := E) (a := a + 2) (x := mf) hB (by omega) hb
          refine br_t (nI_le (by omega) (by omega)) (qx_rn hB hb hE2 hF (by omega) (by omega) ?_)
          generalize qr_number B bl F E (a + 2) mf = nx at hbad hok nb
          obtain ⟨c, x, a'⟩ := nx
          dsimp only at nb ⊢
          by_cases c4 : c = 0
          · rw [c4, qr_ans0]
            have e2 : (32 : Int32) - nI len = nI (32 - len) := pk_sub (a := 32) hl
            refine br_t (nI_pos' (by omega)) (nm_r (nI_add K x) ?_)
            by_cases c5 : 32 - len < K + x
            · exact br_f (by rw [e2]; exact nI_ge c5 (by omega)) (hbad 6 _ (by decide) (by decide) (by unfold qr_m2; rw [if_neg (by dsimp only; omega), if_pos c5]))
            · have key := qx_rm94 (R := R) (cu := nI a') (d := qr_c B a + 256 * qr_c B (a + 1)) (m := K + x) (by omega) (by omega) (by omega) (hok (K + x) a' _ (by unfold qr_m2; rw [if_neg (by dsimp only; omega), if_neg c5]) nb.2.1 nb.2.2.1 (by omega)) (K + x) 0 (by omega) (K + x + 1) (by omega)
              exact br_t (by rw [e2]; exact nI_le (by omega) (by omega)) ⟨_, key⟩
          · rw [qr_ansn c4]
            refine br_f ?_ (hbad c _ c4 (by omega) (by unfold qr_m2; rw [if_pos c4]))
            have := qr_nn (v := 0) c4 (by omega)
            rw [qr_ansn c4] at this
            exact this
theorem qx_rb14 {post : Int32 → St2 → Prop} (hB : qd_by B) (hb : bl ≤ 64) (hE2 : E ≤ 255) (hF : F ≤ 15) (hK : K ≤ 6) (hT8 : T ≤ 8) :
    ∀ g s a len R x1, g + s = bl + 1 → s ≤ a → a ≤ bl → len ≤ 32 → ((x1 = (0 : Int32) ∧ s = 0) ∨ (x1 = 1 ∧ 0 < s)) →
      (∀ W, qr_read B bl F E K T g s a len R = W → ∀ cu, post (qr_ans W.1 W.2.1) (nI F, nI E, nI K, nI T, nI n, nI bl, nI ol, nI W.2.1, cu, S, B, O, W.2.2, PC, PL, PM, PD)) →
      ∀ f, g < f → wX_readBlock_14 post f x1 (nI s) (nI F) (nI E) (nI K) (nI T) (nI n) (nI bl) (nI ol) (nI len) (nI a) S B O R PC PL PM PD := by
  intro g
  induction g with
  | zero => intro s a len R x1 hg hs ha hl hx h f hf; omega
  | succ g ih =>
    intro s a len R x1 hg hs ha hl hx h f hf
    obtain ⟨f, rfl⟩ : ∃ f', f = f' + 1 := ⟨f - 1, by omega⟩
    refine br_f (nI_nlt (by omega) (by omega)) ?_
    by_cases c0 : bl ≤ a
    · exact br_f (nI_nlt c0 (by omega)) (h (3, len, R) (by rw [qr_read, if_pos c0]) _)
    · have hc := (qr_ce hB a).2
      refine br_t (nI_lt (by omega) (by omega)) (qx_rc hB (by omega) hb ⟨by decide, nm_r (pk_div (d := 16) (by omega) (by omega) (by omega)) ⟨by decide, nm_r (pk_rem (d := 16) (by omega) (by omega) (by omega)) ?_⟩⟩)
      by_cases c1 : F < qr_c B a / 16
      · exact br_t (nI_lt c1 (by omega)) (h (4, len, R) (by rw [qr_read, if_neg c0, if_pos (Or.inl c1)]) _)
      · refine br_f (nI_nlt (by omega) (by omega)) ?_
        by_cases c2 : F < qr_c B a % 16
        · exact br_f (nI_ge c2 (by omega)) (h (4, len, R) (by rw [qr_read, if_neg c0, if_pos (Or.inr c2)]) _)
        · have e0 : qr_read B bl F E K T (g + 1) s a len R = qr_l1 B bl F E K T (fun a' len' res' => qr_read B bl F E K T g (s + 1) a' len' res') s len (qr_c B a % 16) R (qr_number B bl F E (a + 1) (qr_c B a / 16)) := by
            rw [qr_read, if_neg c0, if_neg (by omega)]
          rw [e0] at h
          have nb := qr_number_b (bl := bl) (F := F) (E := E) (a := a + 1) (x := qr_c B a / 16) hB (by omega) hb
          refine br_t (nI_le (by omega) (by omega)) (qx_rn hB hb hE2 hF (by omega) (by omega) ?_)
          generalize qr_number B bl F E (a + 1) (qr_c B a / 16) = nl at h nb
          obtain ⟨c, l, a2⟩ := nl
          dsimp only at nb ⊢
          by_cases c3 : c = 0
          · subst c3
            rw [qr_ans0]
            refine br_t (nI_pos' (by omega)) (qx_rl hb nb.2.2.1 hl (by omega) (fun c4 => ?_) (fun c4 c5 => ?_) (fun c4 c5 => ?_))
            · exact br_f (by decide) (h (3, len, R) (by unfold qr_l1; rw [if_neg (by dsimp only; omega), if_pos c4]) _)
            · exact br_f (by decide) (h (6, len, R) (by unfold qr_l1; rw [if_neg (by dsimp only; omega), if_neg c4, if_pos c5]) _)
            · refine br_t (nI_pos' (by omega)) ?_
              by_cases c6 : bl ≤ a2 + l
              · refine br_f (nI_nlt c6 (by omega)) ?_
                have hbad : (qr_c B a % 16 ≠ 0 ∨ (0 < s ∧ l < T)) → qr_l1 B bl F E K T (fun a' len' res' => qr_read B bl F E K T g (s + 1) a' len' res') s len (qr_c B a % 16) R (0, l, a2) = (7, len + l, qd_fill R len (fun i => B (a2 + i)) l) := by
                  intro z
                  unfold qr_l1
                  rw [if_neg (by dsimp only; omega), if_neg c4, if_neg c5, if_pos c6, if_pos z]
                have hgood : ¬ (qr_c B a % 16 ≠ 0 ∨ (0 < s ∧ l < T)) → qr_l1 B bl F E K T (fun a' len' res' => qr_read B bl F E K T g (s + 1) a' len' res') s len (qr_c B a % 16) R (0, l, a2) = (0, len + l, qd_fill R len (fun i => B (a2 + i)) l) := by
                  intro z
                  unfold qr_l1
                  rw [if_neg (by dsimp only; omega), if_neg c4, if_neg c5, if_pos c6, if_neg z]
                have w135 : ∀ z0 : Int32, ((z0 = 0 → ¬ (0 < s ∧ l < T)) ∧ (¬ z0 = 0 → (0 < s ∧ l < T))) → wX_readBlock_135 post (nI (qr_c B a % 16)) z0 (nI F) (nI E) (nI K) (nI T) (nI n) (nI bl) (nI ol) (nI (len + l)) (nI (a2 + l)) S B O (qd_fill R len (fun i => B (a2 + i)) l) PC PL PM PD := by
                  intro z0 hz
                  by_cases c7 : qr_c B a % 16 = 0
                  · rw [c7]
                    refine br_t rfl ?_
                    by_cases c8 : z0 = 0
                    · exact br_t c8 (h _ (hgood (fun z => z.elim (fun y => y c7) (hz.1 c8))) _)
                    · exact br_f c8 (h _ (hbad (Or.inr (hz.2 c8))) _)
                  · exact br_f (nI_ne0 (by omega) (by omega)) (h _ (hbad (Or.inl c7)) _)
                rcases hx with ⟨x0, s0⟩ | ⟨x1', s1⟩
                · refine br_t x0 ?_
                  unfold wX_readBlock_134
                  exact w135 0 ⟨fun _ => by omega, fun z => absurd rfl z⟩
                · refine br_f (by rw [x1']; decide) ?_
                  by_cases c7 : T ≤ l
                  · refine br_t (nI_le c7 (by omega)) ?_
                    unfold wX_readBlock_134
                    exact w135 0 ⟨fun _ => by omega, fun z => absurd rfl z⟩
                  · exact br_f (nI_ge (by omega) (by omega)) (w135 1 ⟨fun z => absurd z (by decide), fun _ => by omega⟩)
              · have em : qr_l1 B bl F E K T (fun a' len' res' => qr_read B bl F E K T g (s + 1) a' len' res') s len (qr_c B a % 16) R (0, l, a2) =
                    qr_m1 B bl F E K (fun a' len' res' => qr_read B bl F E K T g (s + 1) a' len' res') (a2 + l) (len + l) (qr_c B a % 16) (qd_fill R len (fun i => B (a2 + i)) l) := by
                  unfold qr_l1
                  rw [if_neg (by dsimp only; omega), if_neg c4, if_neg c5, if_neg c6]
                rw [em] at h
                refine br_t (nI_lt (by omega) (by omega)) (qx_rm (k := fun a' len' res' => qr_read B bl F E K T g (s + 1) a' len' res') (a := a2 + l) (len := len + l) (mf := qr_c B a % 16) (R := qd_fill R len (fun i => B (a2 + i)) l) hB hb hE2 hF hK (by omega) (by omega) (by omega) (fun c cu hc0 hc8 e => ?_) (fun m a' R' e h1 h2 h3 => ?_))
                · have t := h _ e cu
                  dsimp only at t
                  rw [qr_ansn hc0] at t
                  exact br_f (Int32.not_le.mpr (qr_neg hc0 hc8)) t
                · rw [e] at h
                  exact br_t (nI_pos' (by omega)) (nm_r (nI_1 s) (ih (s + 1) a' (len + l + m) R' 1 (by omega) (by omega) (by omega) (by omega) (Or.inr ⟨rfl, by omega⟩) h f (by omega)))
          · refine br_f (qr_nn c3 (by omega)) ?_
            have t := h (c, len, R) (by unfold qr_l1; rw [if_pos c3]) (nI a2)
            dsimp only at t
            rw [qr_ansn c3] at t ⊢
            exact t
theorem qx_rb {post : Int32 → St2 → Prop} (hB : qd_by B) (hb : bl ≤ 64) (hE2 : E ≤ 255) (hF : F ≤ 15) (hK : K ≤ 6) (hT8 : T ≤ 8)
    (h : ∀ W, qr_read B bl F E K T (bl + 1) 0 0 0 R = W → ∀ cu, post (qr_ans W.1 W.2.1) (nI F, nI E, nI K, nI T, nI n, nI bl, nI ol, nI W.2.1, cu, S, B, O, W.2.2, PC, PL, PM, PD)) : wpX_readBlock post (nI F, nI E, nI K, nI T, nI n, nI bl, nI ol, rl, cu, S, B, O, R, PC, PL, PM, PD) :=
  ⟨bl + 2, qx_rb14 hB hb hE2 hF hK hT8 (bl + 1) 0 0 0 R 0 (by omega) (by omega) (by omega) (by omega) (Or.inl ⟨rfl, rfl⟩) h (bl + 2) (by omega)⟩
theorem qx_re15 {post : Int32 → Prop} {len : Nat} (hl : len ≤ 32) (h1 : (∀ j, j < len → R j = S j) → post 1) (h0 : ¬ (∀ j, j < len → R j = S j) → post 0) :
    ∀ k i, i + k = len → (∀ j, j < i → R j = S j) → ∀ f, k < f → wX_resultEqualsSource_15 post (nI F) (nI E) (nI K) (nI T) (nI n) (nI bl) (nI ol) (nI len) cu S B O R PC PL PM PD f (nI i) := by
  intro k
  induction k with
  | zero =>
    intro i hi hr f hf
    obtain ⟨f, rfl⟩ : ∃ f', f = f' + 1 := ⟨f - 1, by omega⟩
    exact br_t (nI_le (by omega) (by omega)) (h1 (fun j hj => hr j (by omega)))
  | succ k ih =>
    intro i hi hr f hf
    obtain ⟨f, rfl⟩ : ∃ f', f = f' + 1 := ⟨f - 1, by omega⟩
    refine br_f (nI_ge (by omega) (by omega)) ⟨vp_in_nI (by omega) (by decide), vp_in_nI (by omega) (by decide), ?_⟩
    rw [qx_g (a := R), qx_g (a := S)]
    by_cases c : R i = S i
    · exact br_t c (nm_r (nI_1 i) (ih (i + 1) (by omega) (lt_s hr c) f (by omega)))
    · exact br_f c (h0 (fun z => c (z i (by omega))))
theorem qx_re {post : Int32 → Prop} {len : Nat} (hl : len ≤ 32) (hn : n ≤ 32) (h1 : len = n → (∀ j, j < len → R j = S j) → post 1) (h0 : ¬ (len = n ∧ ∀ j, j < len → R j = S j) → post 0) :
    wpX_resultEqualsSource post (nI F, nI E, nI K, nI T, nI n, nI bl, nI ol, nI len, cu, S, B, O, R, PC, PL, PM, PD) := by
  by_cases c : len = n
  · exact br_t (by rw [c]) ⟨len + 1, qx_re15 hl (h1 c) (fun z => h0 (fun y => z y.2)) len 0 (by omega) lt_0 (len + 1) (by omega)⟩
  · exact br_f (fun z => c ((nI_eq (by omega) (by omega)).mp z)) (h0 (fun y => c y.1))
end
