/-! the reference's reader against the pure reader -/
section
variable {F E K T n bl ol : Nat} {at0 fL fX fD : Int32} {S B O R EN : Nat → Int32}
theorem qy_rn12 {post : Int32 → SY → Prop} (hB : qd_by B) (hb : bl ≤ 64) (hE2 : E ≤ 255) :
    ∀ g a x s, a + g = bl → s ≤ a → x + 256 * g < 1000000 → post (qr_ans (qr_num B E g a x).1 (qr_num B E g a x).2.1) (nI n, nI bl, nI ol, nI (qr_num B E g a x).2.2, fL, fX, fD, nI F, nI E, nI K, nI T, S, B, O, R, EN) →
      ∀ f, g < f → wY_readNumber_12 post (nI n) (nI bl) (nI ol) fL fX fD (nI F) (nI E) (nI K) (nI T) S B O R EN f (nI x) (nI s) (nI a) := by
  intro g
  induction g with
  | zero =>
    intro a x s ha hs hx h f hf
    obtain ⟨f, rfl⟩ : ∃ f', f = f' + 1 := ⟨f - 1, by omega⟩
    exact br_c (fun _ => h) (fun _ => br_t (nI_le (by omega) (by omega)) h)
  | succ g ih =>
    intro a x s ha hs hx h f hf
    obtain ⟨f, rfl⟩ : ∃ f', f = f' + 1 := ⟨f - 1, by omega⟩
    have hc := qr_ce hB a
    refine br_f (nI_ge (b := 64) (by omega) (by decide)) (br_f (nI_ge (by omega) (by omega)) (nm_r (nI_1 a) ⟨vp_in_nI (by omega) (by decide), nm_r (e' := nI (qr_c B a)) (by rw [qx_g (a := B)]; exact hc.1) ?_⟩))
    rw [qr_num] at h
    by_cases c1 : E < qr_c B a
    · rw [if_pos c1] at h
      exact br_f (nI_ge c1 (by omega)) h
    · rw [if_neg c1] at h
      refine br_t (nI_le (by omega) (by omega)) (nm_r (nI_add x _) ?_)
      by_cases c2 : qr_c B a < E
      · rw [if_pos c2] at h
        exact br_f (nI_ge c2 (by omega)) h
      · rw [if_neg c2] at h
        exact br_t (nI_le (by omega) (by omega)) (nm_r (nI_1 s) (ih (a + 1) (x + qr_c B a) (s + 1) (by omega) (by omega) (by omega) h f (by omega)))
theorem qy_rn {post : Int32 → SY → Prop} {a x : Nat} (hB : qd_by B) (hb : bl ≤ 64) (hE2 : E ≤ 255) (hF : F ≤ 15) (ha : a ≤ bl) (hx : x ≤ 255)
    (h : post (qr_ans (qr_number B bl F E a x).1 (qr_number B bl F E a x).2.1) (nI n, nI bl, nI ol, nI (qr_number B bl F E a x).2.2, fL, fX, fD, nI F, nI E, nI K, nI T, S, B, O, R, EN)) : wpY_readNumber post (nI n, nI bl, nI ol, nI a, fL, fX, fD, nI F, nI E, nI K, nI T, S, B, O, R, EN) (nI x) := by
  unfold qr_number at h
  by_cases c : x < F
  · rw [if_pos c] at h
    exact br_f (nI_ge c (by omega)) h
  · rw [if_neg c] at h
    exact br_t (nI_le (by omega) (by omega)) ⟨bl + 1, qy_rn12 hB hb hE2 (bl - a) a x 0 (by omega) (by omega) (by omega) h (bl + 1) (by omega)⟩
theorem qy_320 {post : Int32 → SY → Prop} {J : Int32 → Int32 → Int32 → Int32 → Int32 → Int32 → Int32 → Int32 → Int32 → Int32 → Int32 → Int32 → Int32 → (Nat → Int32) → (Nat → Int32) → (Nat → Int32) → (Nat → Int32) → (Nat → Int32) → Prop}
    {s d x len : Nat} (hd : 1 ≤ d) (hd2 : d ≤ len) (hm : len + (K + x) ≤ 32) (h : J (nI (len + (K + x))) (nI (s + 1)) (nI n) (nI bl) (nI ol) at0 fL fX fD (nI F) (nI E) (nI K) (nI T) S B O (qr_copy R len d (K + x)) EN) :
    ∀ k i, i + k = K + x → ∀ f, k < f → wY_read_320 post J (nI s) (nI d) (nI x) (nI n) (nI bl) (nI ol) at0 fL fX fD (nI F) (nI E) (nI K) (nI T) f (nI (len + i)) (nI i) S B O (qr_copy R len d i) EN := by
  have ek : nI K + nI x = nI (K + x) := nI_add _ _
  intro k
  induction k with
  | zero =>
    intro i hi f hf
    obtain ⟨f, rfl⟩ : ∃ f', f = f' + 1 := ⟨f - 1, by omega⟩
    have e : i = K + x := by omega
    rw [e]
    exact br_t (by rw [ek]; exact nI_le (by omega) (by omega)) (nm_r (nI_1 s) h)
  | succ k ih =>
    intro i hi f hf
    obtain ⟨f, rfl⟩ : ∃ f', f = f' + 1 := ⟨f - 1, by omega⟩
    have es : nI (len + i) - nI d = nI (len + i - d) := pk_sub (by omega)
    refine br_f (by rw [ek]; exact nI_ge (by omega) (by omega)) ⟨by rw [es]; exact vp_in_nI (by omega) (by decide), vp_in_nI (by omega) (by decide), nm_r (e' := qr_copy R len d (i + 1)) ?_ (nm_r (nI_1 i) (nm_r (nI_1 (len + i)) (ih (i + 1) (by omega) f (by omega))))⟩
    rw [es, nI_clamp (by omega), nI_clamp (by omega), qr_copy]
theorem qy_134e {post : Int32 → SY → Prop} {J : Int32 → Int32 → Int32 → Int32 → Int32 → Int32 → Int32 → Int32 → Int32 → Int32 → Int32 → Int32 → Int32 → (Nat → Int32) → (Nat → Int32) → (Nat → Int32) → (Nat → Int32) → (Nat → Int32) → Prop}
    {k : Nat → Nat → (Nat → Int32) → qr_R} {s l mf a len : Nat} (hB : qd_by B) (hb : bl ≤ 64) (hE2 : E ≤ 255) (hF : F ≤ 15) (hK : K ≤ 6) (hT8 : T ≤ 8) (ha : a ≤ bl) (hl : len ≤ 32) (hl2 : l ≤ 32) (hf : mf ≤ 15) (hs : s ≤ 64)
    (h7 : a = bl → (mf ≠ 0 ∨ (0 < s ∧ l < T)) → post (-7) (nI n, nI bl, nI ol, nI a, fL, fX, fD, nI F, nI E, nI K, nI T, S, B, O, R, EN)) (h0 : a = bl → ¬ (mf ≠ 0 ∨ (0 < s ∧ l < T)) → post (nI len) (nI n, nI bl, nI ol, nI a, fL, fX, fD, nI F, nI E, nI K, nI T, S, B, O, R, EN))
    (hbad : ∀ c at0, a < bl → c ≠ 0 → c ≤ 8 → qr_m1 B bl F E K k a len mf R = (c, len, R) → post (-nI c) (nI n, nI bl, nI ol, at0, fL, fX, fD, nI F, nI E, nI K, nI T, S, B, O, R, EN))
    (hok : ∀ m a' R', a < bl → qr_m1 B bl F E K k a len mf R = k a' (len + m) R' → a + 2 ≤ a' → a' ≤ bl → len + m ≤ 32 → J (nI (len + m)) (nI (s + 1)) (nI n) (nI bl) (nI ol) (nI a') fL fX fD (nI F) (nI E) (nI K) (nI T) S B O R' EN) (f : Nat) :
    wY_read_134 post J (nI s) (nI mf) (nI l) (nI n) (nI bl) (nI ol) fL fX fD (nI F) (nI E) (nI K) (nI T) (f + 1) (nI len) (nI l) (nI a) S B O R EN := by
  have k0 := qr_ce hB a
  have k1 := qr_ce hB (a + 1)
  refine br_t (nI_le (by omega) (by omega)) ?_
  by_cases c0 : a = bl
  · refine br_t (by rw [c0]) ?_
    by_cases c1 : mf = 0
    · refine br_t (by rw [c1]; rfl) ?_
      by_cases c2 : s = 0
      · exact br_t (by rw [c2]; decide) (h0 c0 (by omega))
      · refine br_f (nI_nle (by omega) (by omega)) ?_
        by_cases c3 : T ≤ l
        · exact br_t (nI_le c3 (by omega)) (h0 c0 (by omega))
        · exact br_f (nI_ge (by omega) (by omega)) (h7 c0 (by omega))
    · exact br_f (nI_ne0 (by omega) (by omega)) (h7 c0 (Or.inl c1))
  · refine br_f (fun z => c0 ((nI_eq (by omega) (by omega)).mp z)) ?_
    have e1 : nI bl - 1 = nI (bl - 1) := pk_sub (b := 1) (by omega)
    by_cases c1 : bl - a < 2
    · exact br_t (by rw [e1]; exact congrArg nI (by omega)) (hbad 3 _ (by omega) (by decide) (by decide) (by unfold qr_m1; rw [if_pos c1]))
    · refine br_f (by rw [e1]; exact fun z => absurd ((nI_eq (by omega) (by omega)).mp z) (by omega)) (nm_r (nI_1 a) ⟨vp_in_nI (by omega) (by decide), nm_r (nI_1 (a + 1)) ⟨vp_in_nI (by omega) (by decide), nm_r (e' := nI (qr_c B a + 256 * qr_c B (a + 1))) ?_ ?_⟩⟩)
      · rw [qx_g (a := B), qx_g (a := B), k0.1, k1.1, show (256 : Int32) * nI (qr_c B (a + 1)) = nI (256 * qr_c B (a + 1)) from pk_mul 256 _, nI_add]
      · have h0 := k0.2
        have h1 := k1.2
        by_cases c2 : qr_c B a + 256 * qr_c B (a + 1) = 0
        · rw [c2]
          exact br_t rfl (hbad 8 _ (by omega) (by decide) (by decide) (by unfold qr_m1; rw [if_neg c1, if_pos (Or.inl c2)]))
        · refine br_f (nI_ne0 (by omega) (by omega)) ?_
          by_cases c3 : len < qr_c B a + 256 * qr_c B (a + 1)
          · exact br_f (nI_ge c3 (by omega)) (hbad 8 _ (by omega) (by decide) (by decide) (by unfold qr_m1; rw [if_neg c1, if_pos (Or.inr c3)]))
          · have em : qr_m1 B bl F E K k a len mf R = qr_m2 K k len (qr_c B a + 256 * qr_c B (a + 1)) R (qr_number B bl F E (a + 2) mf) := by
              unfold qr_m1
              rw [if_neg c1, if_neg (by omega)]
            rw [em] at hbad hok
            have nb := qr_number_b (bl := bl) (F := F) (E := E) (a := a + 2) (x := mf) hB (by omega) hb
            refine br_t (nI_le (by omega) (by omega)) (qy_rn hB hb hE2 hF (by omega) (by omega) ?_)
            generalize qr_number B bl F E (a + 2) mf = nx at hbad hok nb
            obtain ⟨c, x, a'⟩ := nx
            dsimp only at nb ⊢
            by_cases c4 : c = 0
            · rw [c4, qr_ans0]
              have e2 : nI len + nI K + nI x = nI (len + (K + x)) := by rw [nI_add, nI_add, Nat.add_assoc]
              refine br_f (nI_pos (by omega)) ?_
              by_cases c5 : 32 - len < K + x
              · refine br_f (by rw [e2]; exact nI_ge (a := 32) (by omega) (by omega)) ?_
                unfold wY_read_304
                exact br_t (nI_pos' (by omega)) (hbad 6 _ (by omega) (by decide) (by decide) (by unfold qr_m2; rw [if_neg (by dsimp only; omega), if_pos c5]))
              · have key := qy_320 (post := post) (J := J) (R := R) (at0 := nI a') (s := s) (d := qr_c B a + 256 * qr_c B (a + 1)) (x := x) (len := len) (by omega) (by omega) (by omega) (hok (K + x) a' _ (by omega) (by unfold qr_m2; rw [if_neg (by dsimp only; omega), if_neg c5]) nb.2.1 nb.2.2.1 (by omega)) (K + x) 0 (by omega) (K + x + 1) (by omega)
                exact br_t (by rw [e2]; exact nI_le (b := 32) (by omega) (by decide)) ⟨_, key⟩
            · rw [qr_ansn c4]
              refine br_t (qr_neg c4 (by omega)) ?_
              unfold wY_read_304
              exact br_f (Int32.not_le.mpr (qr_neg c4 (by omega))) (hbad c _ (by omega) c4 (by omega) (by unfold qr_m2; rw [if_pos c4]))
theorem qy_134 {post : Int32 → SY → Prop} {J : Int32 → Int32 → Int32 → Int32 → Int32 → Int32 → Int32 → Int32 → Int32 → Int32 → Int32 → Int32 → Int32 → (Nat → Int32) → (Nat → Int32) → (Nat → Int32) → (Nat → Int32) → (Nat → Int32) → Prop}
    {s l mf a len : Nat} (hb : bl ≤ 64) (ha : a + l ≤ bl) (hl : len + l ≤ 32)
    (h : ∀ f, wY_read_134 post J (nI s) (nI mf) (nI l) (nI n) (nI bl) (nI ol) fL fX fD (nI F) (nI E) (nI K) (nI T) (f + 1) (nI (len + l)) (nI l) (nI (a + l)) S B O (qd_fill R len (fun i => B (a + i)) l) EN) :
    ∀ k i, i + k = l → ∀ f, k < f → wY_read_134 post J (nI s) (nI mf) (nI l) (nI n) (nI bl) (nI ol) fL fX fD (nI F) (nI E) (nI K) (nI T) f (nI (len + i)) (nI i) (nI (a + i)) S B O (qd_fill R len (fun i => B (a + i)) i) EN := by
  intro k
  induction k with
  | zero =>
    intro i hi f hf
    obtain ⟨f, rfl⟩ : ∃ f', f = f' + 1 := ⟨f - 1, by omega⟩
    have e : i = l := by omega
    rw [e]
    exact h f
  | succ k ih =>
    intro i hi f hf
    obtain ⟨f, rfl⟩ : ∃ f', f = f' + 1 := ⟨f - 1, by omega⟩
    have key := ih (i + 1) (by omega) f (by omega)
    refine br_f (nI_ge (by omega) (by omega)) (nm_r (nI_1 _) (nm_r (nI_1 _) ⟨vp_in_nI (by omega) (by decide), vp_in_nI (by omega) (by decide), nm_r (e' := qd_fill R len (fun i => B (a + i)) (i + 1)) ?_ (nm_r (nI_1 i) key)⟩))
    rw [nI_clamp (by omega), nI_clamp (by omega), ← qd_fill_s]
theorem qy_rd9 {post : Int32 → SY → Prop} (hB : qd_by B) (hb : bl ≤ 64) (hE2 : E ≤ 255) (hF : F ≤ 15) (hK : K ≤ 6) (hT8 : T ≤ 8) :
    ∀ g s a len R, g + s = bl + 1 → s ≤ a → a ≤ bl → len ≤ 32 →
      (∀ W, qr_read B bl F E K T g s a len R = W → ∀ at0, post (qr_ans W.1 W.2.1) (nI n, nI bl, nI ol, at0, fL, fX, fD, nI F, nI E, nI K, nI T, S, B, O, W.2.2, EN)) →
      ∀ f, g < f → wY_read_9 post f (nI len) (nI s) (nI n) (nI bl) (nI ol) (nI a) fL fX fD (nI F) (nI E) (nI K) (nI T) S B O R EN := by
  intro g
  induction g with
  | zero => intro s a len R hg hs ha hl h f hf; omega
  | succ g ih =>
    intro s a len R hg hs ha hl h f hf
    obtain ⟨f, rfl⟩ : ∃ f', f = f' + 1 := ⟨f - 1, by omega⟩
    by_cases c0 : bl ≤ a
    · have t := h (3, len, R) (by rw [qr_read, if_pos c0]) (nI a)
      exact br_c (fun _ => t) (fun _ => br_t (nI_le c0 (by omega)) t)
    · have hc := qr_ce hB a
      have hc2 := hc.2
      have ed : B (nI a).toNatClampNeg / 16 = nI (qr_c B a / 16) := by rw [qx_g (a := B), hc.1]; exact pk_div (d := 16) (by omega) (by omega) (by omega)
      have er : B (nI a).toNatClampNeg - B (nI a).toNatClampNeg / 16 * 16 = nI (qr_c B a % 16) := by rw [qx_g (a := B), hc.1]; exact pk_rem (d := 16) (by omega) (by omega) (by omega)
      have hv : vp_in (nI a) 64 := vp_in_nI (by omega) (by decide)
      refine br_f (nI_ge (b := 64) (by omega) (by decide)) (br_f (nI_ge (by omega) (by omega)) ⟨hv, by decide, nm_r ed (nm_r (nI_1 a) ⟨hv, by decide, nm_r er ?_⟩)⟩)
      by_cases c1 : F < qr_c B a / 16
      · exact br_t (nI_lt c1 (by omega)) (h (4, len, R) (by rw [qr_read, if_neg c0, if_pos (Or.inl c1)]) _)
      · refine br_f (nI_nlt (by omega) (by omega)) ?_
        by_cases c2 : F < qr_c B a % 16
        · exact br_f (nI_ge c2 (by omega)) (h (4, len, R) (by rw [qr_read, if_neg c0, if_pos (Or.inr c2)]) _)
        · have e0 : qr_read B bl F E K T (g + 1) s a len R = qr_l1 B bl F E K T (fun a' len' res' => qr_read B bl F E K T g (s + 1) a' len' res') s len (qr_c B a % 16) R (qr_number B bl F E (a + 1) (qr_c B a / 16)) := by
            rw [qr_read, if_neg c0, if_neg (by omega)]
          rw [e0] at h
          have nb := qr_number_b (bl := bl) (F := F) (E := E) (a := a + 1) (x := qr_c B a / 16) hB (by omega) hb
          refine br_t (nI_le (by omega) (by omega)) (qy_rn hB hb hE2 hF (by omega) (by omega) ?_)
          generalize qr_number B bl F E (a + 1) (qr_c B a / 16) = nl at h nb
          obtain ⟨c, l, a2⟩ := nl
          dsimp only at nb ⊢
          by_cases c3 : c = 0
          · subst c3
            rw [qr_ans0]
            have e1 : nI bl - nI a2 = nI (bl - a2) := pk_sub nb.2.2.1
            refine br_f (nI_pos (by omega)) ?_
            by_cases c4 : bl - a2 < l
            · refine br_f (by rw [e1]; exact nI_ge c4 (by omega)) ?_
              unfold wY_read_106
              exact br_t (nI_pos' (by omega)) (h (3, len, R) (by unfold qr_l1; rw [if_neg (by dsimp only; omega), if_pos c4]) _)
            · refine br_t (by rw [e1]; exact nI_le (by omega) (by omega)) ?_
              by_cases c5 : 32 - len < l
              · exact br_f (by rw [nI_add]; exact nI_ge (a := 32) (by omega) (by omega)) (h (6, len, R) (by unfold qr_l1; rw [if_neg (by dsimp only; omega), if_neg c4, if_pos c5]) _)
              · refine br_t (by rw [nI_add]; exact nI_le (b := 32) (by omega) (by decide)) ⟨l + 1, ?_⟩
                have hbad : a2 + l = bl → (qr_c B a % 16 ≠ 0 ∨ (0 < s ∧ l < T)) → qr_l1 B bl F E K T (fun a' len' res' => qr_read B bl F E K T g (s + 1) a' len' res') s len (qr_c B a % 16) R (0, l, a2) = (7, len + l, qd_fill R len (fun i => B (a2 + i)) l) := by
                  intro c6 z
                  unfold qr_l1
                  rw [if_neg (by dsimp only; omega), if_neg c4, if_neg c5, if_pos (by dsimp only; omega), if_pos z]
                have hgood : a2 + l = bl → ¬ (qr_c B a % 16 ≠ 0 ∨ (0 < s ∧ l < T)) → qr_l1 B bl F E K T (fun a' len' res' => qr_read B bl F E K T g (s + 1) a' len' res') s len (qr_c B a % 16) R (0, l, a2) = (0, len + l, qd_fill R len (fun i => B (a2 + i)) l) := by
                  intro c6 z
                  unfold qr_l1
                  rw [if_neg (by dsimp only; omega), if_neg c4, if_neg c5, if_pos (by dsimp only; omega), if_neg z]
                have em : a2 + l < bl → qr_l1 B bl F E K T (fun a' len' res' => qr_read B bl F E K T g (s + 1) a' len' res') s len (qr_c B a % 16) R (0, l, a2) =
                    qr_m1 B bl F E K (fun a' len' res' => qr_read B bl F E K T g (s + 1) a' len' res') (a2 + l) (len + l) (qr_c B a % 16) (qd_fill R len (fun i => B (a2 + i)) l) := by
                  intro c6
                  unfold qr_l1
                  rw [if_neg (by dsimp only; omega), if_neg c4, if_neg c5, if_neg (by dsimp only; omega)]
                have fin : ∀ f', wY_read_134 post (wY_read_9 post f) (nI s) (nI (qr_c B a % 16)) (nI l) (nI n) (nI bl) (nI ol) fL fX fD (nI F) (nI E) (nI K) (nI T) (f' + 1) (nI (len + l)) (nI l) (nI (a2 + l)) S B O (qd_fill R len (fun i => B (a2 + i)) l) EN := by
                  refine qy_134e (k := fun a' len' res' => qr_read B bl F E K T g (s + 1) a' len' res') hB hb hE2 hF hK hT8 (by omega) (by omega) (by omega) (by omega) (by omega) (fun c6 z => h _ (hbad c6 z) _) (fun c6 z => h _ (hgood c6 z) _) (fun c at0 c6 hc0 hc8 e => ?_) (fun m a' R' c6 e h1 h2 h3 => ?_)
                  · have t := h _ ((em c6).trans e) at0
                    dsimp only at t
                    rw [qr_ansn hc0] at t
                    exact t
                  · exact ih (s + 1) a' (len + l + m) R' (by omega) (by omega) (by omega) (by omega) (fun W hW => h W (((em c6).trans e).trans hW)) f (by omega)
                have key := qy_134 (R := R) (a := a2) hb (by omega) (by omega) fin l 0 (by omega) (l + 1) (by omega)
                rw [qd_fill_0] at key
                exact key
          · refine br_t (qr_ans_neg c3 (by omega)) ?_
            unfold wY_read_106
            refine br_f (qr_nn c3 (by omega)) ?_
            have t := h (c, len, R) (by unfold qr_l1; rw [if_pos c3]) (nI a2)
            dsimp only at t
            rw [qr_ansn c3] at t ⊢
            exact t
theorem qy_rd {post : Int32 → SY → Prop} (hB : qd_by B) (hb : bl ≤ 64) (hE2 : E ≤ 255) (hF : F ≤ 15) (hK : K ≤ 6) (hT8 : T ≤ 8)
    (h : ∀ W, qr_read B bl F E K T (bl + 1) 0 0 0 R = W → ∀ at0, post (qr_ans W.1 W.2.1) (nI n, nI bl, nI ol, at0, fL, fX, fD, nI F, nI E, nI K, nI T, S, B, O, W.2.2, EN)) : wpY_read post (nI n, nI bl, nI ol, at0, fL, fX, fD, nI F, nI E, nI K, nI T, S, B, O, R, EN) :=
  ⟨bl + 2, qy_rd9 hB hb hE2 hF hK hT8 (bl + 1) 0 0 0 R (by omega) (by omega) (by omega) (by omega) h (bl + 2) (by omega)⟩
end
