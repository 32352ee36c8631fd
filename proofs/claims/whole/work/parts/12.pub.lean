/-! the public methods of both sides, each with a general post -/
section
variable {F E K T n bl ol : Nat} {rl cu : Int32} {S B O R PC PL PM PD : Nat → Int32} {at0 fL fX fD : Int32} {EN : Nat → Int32}
theorem qi_32 (h : n ≤ 32) : (32 : Int32) - nI n = nI (32 - n) := pk_sub (a := 32) h
theorem qx_rp {post : Int32 → SX → Prop} {v : Int32} {m : Nat} (h1 : 1 ≤ m) (hm : n + m ≤ 32) (h : post (nI (n + m)) (nI F, nI E, nI K, nI T, nI (n + m), nI bl, nI ol, rl, cu, qd_fill S n (fun _ => v &&& 255) m, B, O, R, PC, PL, PM, PD)) : wpX_repeat post (nI F, nI E, nI K, nI T, nI n, nI bl, nI ol, rl, cu, S, B, O, R, PC, PL, PM, PD) v (nI m) := by
  have key := qx_rp23 hm h m 0 (by omega) (m + 1) (by omega)
  rw [qd_fill_0] at key
  exact br_t (nI_le (a := 1) h1 (by omega)) (br_t (by rw [qi_32 (by omega)]; exact nI_le (by omega) (by omega)) ⟨_, key⟩)
theorem qy_rp {post : Int32 → SY → Prop} {v : Int32} {m : Nat} (h1 : 1 ≤ m) (hm : n + m ≤ 32) (h : post (nI (n + m)) (nI (n + m), nI bl, nI ol, at0, fL, fX, fD, nI F, nI E, nI K, nI T, qd_fill S n (fun _ => v &&& 255) m, B, O, R, EN)) : wpY_repeat post (nI n, nI bl, nI ol, at0, fL, fX, fD, nI F, nI E, nI K, nI T, S, B, O, R, EN) v (nI m) := by
  have key := qy_rp23 hm h m 0 (by omega) (m + 1) (by omega)
  rw [qd_fill_0] at key
  exact br_t (nI_le (a := 1) h1 (by omega)) (br_t (by rw [qi_32 (by omega)]; exact nI_le (by omega) (by omega)) ⟨_, key⟩)
theorem qx_rpF {post : Int32 → SX → Prop} {v : Int32} {m : Nat} (h1 : 1 ≤ m) (hj : m < 2 ^ 31) (hn : n ≤ 32) (hm : 32 < n + m) (h : post (-1) (nI F, nI E, nI K, nI T, nI n, nI bl, nI ol, rl, cu, S, B, O, R, PC, PL, PM, PD)) : wpX_repeat post (nI F, nI E, nI K, nI T, nI n, nI bl, nI ol, rl, cu, S, B, O, R, PC, PL, PM, PD) v (nI m) :=
  br_t (nI_le (a := 1) h1 hj) (br_f (by rw [qi_32 hn]; exact nI_ge (by omega) hj) h)
theorem qy_rpF {post : Int32 → SY → Prop} {v : Int32} {m : Nat} (h1 : 1 ≤ m) (hj : m < 2 ^ 31) (hn : n ≤ 32) (hm : 32 < n + m) (h : post (-1) (nI n, nI bl, nI ol, at0, fL, fX, fD, nI F, nI E, nI K, nI T, S, B, O, R, EN)) : wpY_repeat post (nI n, nI bl, nI ol, at0, fL, fX, fD, nI F, nI E, nI K, nI T, S, B, O, R, EN) v (nI m) :=
  br_t (nI_le (a := 1) h1 hj) (br_f (by rw [qi_32 hn]; exact nI_ge (by omega) hj) h)
theorem qx_ec {post : Int32 → SX → Prop} {d m : Nat} (hd : 1 ≤ d) (hd2 : d ≤ n) (h1 : 1 ≤ m) (hm : n + m ≤ 32) (h : post (nI (n + m)) (nI F, nI E, nI K, nI T, nI (n + m), nI bl, nI ol, rl, cu, qr_copy S n d m, B, O, R, PC, PL, PM, PD)) : wpX_echo post (nI F, nI E, nI K, nI T, nI n, nI bl, nI ol, rl, cu, S, B, O, R, PC, PL, PM, PD) (nI d) (nI m) :=
  br_f (nI_nlt (b := 1) hd (by omega)) (br_t (nI_le hd2 (by omega)) (br_t (nI_le (a := 1) h1 (by omega)) (br_t (by rw [qi_32 (by omega)]; exact nI_le (by omega) (by omega)) ⟨m + 1, qx_ec39 hd hd2 hm h m 0 (by omega) (m + 1) (by omega)⟩)))
theorem qy_ec {post : Int32 → SY → Prop} {d m : Nat} (hd : 1 ≤ d) (hd2 : d ≤ n) (h1 : 1 ≤ m) (hm : n + m ≤ 32) (h : post (nI (n + m)) (nI (n + m), nI bl, nI ol, at0, fL, fX, fD, nI F, nI E, nI K, nI T, qr_copy S n d m, B, O, R, EN)) : wpY_echo post (nI n, nI bl, nI ol, at0, fL, fX, fD, nI F, nI E, nI K, nI T, S, B, O, R, EN) (nI d) (nI m) :=
  br_f (nI_nlt (b := 1) hd (by omega)) (br_f (nI_nlt hd2 (by omega)) (br_t (nI_le (a := 1) h1 (by omega)) (br_t (by rw [qi_32 (by omega)]; exact nI_le (by omega) (by omega)) ⟨m + 1, qy_ec36 hd hd2 hm h m 0 (by omega) (m + 1) (by omega)⟩)))
theorem qx_ecF {post : Int32 → SX → Prop} {d m : Nat} (hd : 1 ≤ d) (hd2 : d ≤ n) (hn : n ≤ 32) (h1 : 1 ≤ m) (hj : m < 2 ^ 31) (hm : 32 < n + m) (h : post (-1) (nI F, nI E, nI K, nI T, nI n, nI bl, nI ol, rl, cu, S, B, O, R, PC, PL, PM, PD)) : wpX_echo post (nI F, nI E, nI K, nI T, nI n, nI bl, nI ol, rl, cu, S, B, O, R, PC, PL, PM, PD) (nI d) (nI m) :=
  br_f (nI_nlt (b := 1) hd (by omega)) (br_t (nI_le hd2 (by omega)) (br_t (nI_le (a := 1) h1 hj) (br_f (by rw [qi_32 hn]; exact nI_ge (by omega) hj) h)))
theorem qy_ecF {post : Int32 → SY → Prop} {d m : Nat} (hd : 1 ≤ d) (hd2 : d ≤ n) (hn : n ≤ 32) (h1 : 1 ≤ m) (hj : m < 2 ^ 31) (hm : 32 < n + m) (h : post (-1) (nI n, nI bl, nI ol, at0, fL, fX, fD, nI F, nI E, nI K, nI T, S, B, O, R, EN)) : wpY_echo post (nI n, nI bl, nI ol, at0, fL, fX, fD, nI F, nI E, nI K, nI T, S, B, O, R, EN) (nI d) (nI m) :=
  br_f (nI_nlt (b := 1) hd (by omega)) (br_f (nI_nlt hd2 (by omega)) (br_t (nI_le (a := 1) h1 hj) (br_f (by rw [qi_32 hn]; exact nI_ge (by omega) hj) h)))
theorem qx_ln {post : Int32 → Prop} {v : Int32} (h0 : v = 0 → post (nI n)) (h1 : v = 1 → post (nI bl)) (h2 : v = 2 → post (nI ol)) (h3 : ¬ v = 0 → ¬ v = 1 → ¬ v = 2 → post (-2)) : wpX_lengthOf post (nI F, nI E, nI K, nI T, nI n, nI bl, nI ol, rl, cu, S, B, O, R, PC, PL, PM, PD) v :=
  br_c h0 (fun a => br_c h1 (fun b => br_c h2 (fun c => h3 a b c)))
theorem qy_ln {post : Int32 → Prop} {v : Int32} (h0 : v = 0 → post (nI n)) (h1 : v = 1 → post (nI bl)) (h2 : v = 2 → post (nI ol)) (h3 : ¬ v = 0 → ¬ v = 1 → ¬ v = 2 → post (-2)) : wpY_length post (nI n, nI bl, nI ol, at0, fL, fX, fD, nI F, nI E, nI K, nI T, S, B, O, R, EN) v :=
  br_c h0 (fun a => br_c h1 (fun b => br_c h2 (fun c => h3 a b c)))
theorem qi_01 : ¬ (0 : Int32) = 1 := by decide
theorem qi_02 : ¬ (0 : Int32) = 2 := by decide
theorem qi_10 : ¬ (1 : Int32) = 0 := by decide
theorem qi_12 : ¬ (1 : Int32) = 2 := by decide
theorem qi_20 : ¬ (2 : Int32) = 0 := by decide
theorem qi_21 : ¬ (2 : Int32) = 1 := by decide
theorem qx_c0 {post : Int32 → SX → Prop} {j : Nat} (hn : n ≤ 32) (hj : j < 2 ^ 31) (h1 : j ≤ n → post (nI j) (nI F, nI E, nI K, nI T, nI j, nI bl, nI ol, rl, cu, S, B, O, R, PC, PL, PM, PD)) (h2 : ¬ j ≤ n → post (-2) (nI F, nI E, nI K, nI T, nI n, nI bl, nI ol, rl, cu, S, B, O, R, PC, PL, PM, PD)) : wpX_cut post (nI F, nI E, nI K, nI T, nI n, nI bl, nI ol, rl, cu, S, B, O, R, PC, PL, PM, PD) 0 (nI j) := by
  refine br_t rfl ?_
  unfold wX_cut_12
  refine br_f (nI_pos hj) (qx_ln (fun _ => ?_) (fun z => absurd z qi_01) (fun z => absurd z qi_02) (fun z => absurd rfl z))
  by_cases c : j ≤ n
  · exact br_t (nI_le c (by omega)) (br_t rfl (h1 c))
  · exact br_f (nI_ge (by omega) hj) (h2 c)
theorem qy_c0 {post : Int32 → SY → Prop} {j : Nat} (hn : n ≤ 32) (hj : j < 2 ^ 31) (h1 : j ≤ n → post (nI j) (nI j, nI bl, nI ol, at0, fL, fX, fD, nI F, nI E, nI K, nI T, S, B, O, R, EN)) (h2 : ¬ j ≤ n → post (-2) (nI n, nI bl, nI ol, at0, fL, fX, fD, nI F, nI E, nI K, nI T, S, B, O, R, EN)) : wpY_cut post (nI n, nI bl, nI ol, at0, fL, fX, fD, nI F, nI E, nI K, nI T, S, B, O, R, EN) 0 (nI j) := by
  refine br_t rfl ?_
  unfold wY_cut_9
  refine br_f (nI_pos hj) (qy_ln (fun _ => ?_) (fun z => absurd z qi_01) (fun z => absurd z qi_02) (fun z => absurd rfl z))
  by_cases c : j ≤ n
  · exact br_t (nI_le c (by omega)) (br_t rfl (h1 c))
  · exact br_f (nI_ge (by omega) hj) (h2 c)
theorem qx_c1 {post : Int32 → SX → Prop} {j : Nat} (hn : bl ≤ 64) (hj : j < 2 ^ 31) (h1 : j ≤ bl → post (nI j) (nI F, nI E, nI K, nI T, nI n, nI j, nI ol, rl, cu, S, B, O, R, PC, PL, PM, PD)) (h2 : ¬ j ≤ bl → post (-2) (nI F, nI E, nI K, nI T, nI n, nI bl, nI ol, rl, cu, S, B, O, R, PC, PL, PM, PD)) : wpX_cut post (nI F, nI E, nI K, nI T, nI n, nI bl, nI ol, rl, cu, S, B, O, R, PC, PL, PM, PD) 1 (nI j) := by
  refine br_f qi_10 (br_t rfl ?_)
  unfold wX_cut_12
  refine br_f (nI_pos hj) (qx_ln (fun z => absurd z qi_10) (fun _ => ?_) (fun z => absurd z qi_12) (fun _ z => absurd rfl z))
  by_cases c : j ≤ bl
  · exact br_t (nI_le c (by omega)) (br_f qi_10 (h1 c))
  · exact br_f (nI_ge (by omega) hj) (h2 c)
theorem qy_c1 {post : Int32 → SY → Prop} {j : Nat} (hn : bl ≤ 64) (hj : j < 2 ^ 31) (h1 : j ≤ bl → post (nI j) (nI n, nI j, nI ol, at0, fL, fX, fD, nI F, nI E, nI K, nI T, S, B, O, R, EN)) (h2 : ¬ j ≤ bl → post (-2) (nI n, nI bl, nI ol, at0, fL, fX, fD, nI F, nI E, nI K, nI T, S, B, O, R, EN)) : wpY_cut post (nI n, nI bl, nI ol, at0, fL, fX, fD, nI F, nI E, nI K, nI T, S, B, O, R, EN) 1 (nI j) := by
  refine br_f qi_10 (br_t rfl ?_)
  unfold wY_cut_9
  refine br_f (nI_pos hj) (qy_ln (fun z => absurd z qi_10) (fun _ => ?_) (fun z => absurd z qi_12) (fun _ z => absurd rfl z))
  by_cases c : j ≤ bl
  · exact br_t (nI_le c (by omega)) (br_f qi_10 (h1 c))
  · exact br_f (nI_ge (by omega) hj) (h2 c)
theorem qx_cn {post : Int32 → SX → Prop} {v w : Int32} (hw : w < 0) (h : post (-2) (nI F, nI E, nI K, nI T, nI n, nI bl, nI ol, rl, cu, S, B, O, R, PC, PL, PM, PD)) : wpX_cut post (nI F, nI E, nI K, nI T, nI n, nI bl, nI ol, rl, cu, S, B, O, R, PC, PL, PM, PD) v w := by
  refine br_c (fun _ => ?_) (fun _ => br_c (fun _ => ?_) (fun _ => h))
  · unfold wX_cut_12; exact br_t hw h
  · unfold wX_cut_12; exact br_t hw h
theorem qy_cn {post : Int32 → SY → Prop} {v w : Int32} (hw : w < 0) (h : post (-2) (nI n, nI bl, nI ol, at0, fL, fX, fD, nI F, nI E, nI K, nI T, S, B, O, R, EN)) : wpY_cut post (nI n, nI bl, nI ol, at0, fL, fX, fD, nI F, nI E, nI K, nI T, S, B, O, R, EN) v w := by
  refine br_c (fun _ => ?_) (fun _ => br_c (fun _ => ?_) (fun _ => h))
  · unfold wY_cut_9; exact br_t hw h
  · unfold wY_cut_9; exact br_t hw h
theorem qx_ad {post : Int32 → SX → Prop} (ho : ol ≤ 32) (h : post (nI ol) (nI F, nI E, nI K, nI T, nI ol, nI bl, nI ol, rl, cu, qd_fill S 0 O ol, B, O, R, PC, PL, PM, PD)) : wpX_adopt post (nI F, nI E, nI K, nI T, nI n, nI bl, nI ol, rl, cu, S, B, O, R, PC, PL, PM, PD) := by
  have key := qx_ad2 (n := n) ho h ol 0 (by omega) (ol + 1) (by omega)
  rw [qd_fill_0] at key
  exact ⟨_, key⟩
theorem qy_ad {post : Int32 → SY → Prop} (ho : ol ≤ 32) (h : post (nI ol) (nI ol, nI bl, nI ol, at0, fL, fX, fD, nI F, nI E, nI K, nI T, qd_fill S 0 O ol, B, O, R, EN)) : wpY_adopt post (nI n, nI bl, nI ol, at0, fL, fX, fD, nI F, nI E, nI K, nI T, S, B, O, R, EN) := by
  have key := qy_ad5 ho h ol 0 (by omega) (ol + 1) (by omega)
  rw [qd_fill_0] at key
  exact ⟨_, key⟩
theorem qx_de {post : Int32 → SX → Prop} (hB : qd_by B) (hR : qd_by R) (hb : bl ≤ 64) (hE2 : E ≤ 255) (hF : F ≤ 15) (hK : K ≤ 6) (hT8 : T ≤ 8) {c len : Nat} {R' : Nat → Int32}
    (hW : qr_read B bl F E K T (bl + 1) 0 0 0 R = (c, len, R')) (h0 : c = 0 → ∀ cu, post (nI len) (nI F, nI E, nI K, nI T, nI n, nI bl, nI len, nI len, cu, S, B, qd_fill O 0 R' len, R', PC, PL, PM, PD)) (h1 : c ≠ 0 → ∀ cu, post (-nI c) (nI F, nI E, nI K, nI T, nI n, nI bl, nI ol, nI len, cu, S, B, O, R', PC, PL, PM, PD)) : wpX_decode post (nI F, nI E, nI K, nI T, nI n, nI bl, nI ol, rl, cu, S, B, O, R, PC, PL, PM, PD) := by
  have hw := qr_read_b (bl := bl) (F := F) (E := E) (K := K) (T := T) hB (bl + 1) 0 0 0 R (by omega) hR
  rw [hW] at hw
  obtain ⟨w1, w2, w3⟩ := hw
  dsimp only at w1 w2 w3
  unfold wpX_decode
  refine qx_rb hB hb hE2 hF hK hT8 (fun W e cu => ?_)
  rw [hW] at e
  subst e
  dsimp only
  by_cases c0 : c = 0
  · rw [c0, qr_ans0]
    have key := qx_de13 (ol := ol) (R := R') (O := O) w2 (h0 c0 cu) len 0 (by omega) (len + 1) (by omega)
    rw [qd_fill_0] at key
    exact br_t (nI_pos' (by omega)) ⟨_, key⟩
  · rw [qr_ansn c0]
    exact br_f (Int32.not_le.mpr (qr_neg c0 w1)) (h1 c0 cu)
theorem qy_de {post : Int32 → SY → Prop} (hB : qd_by B) (hR : qd_by R) (hb : bl ≤ 64) (hE2 : E ≤ 255) (hF : F ≤ 15) (hK : K ≤ 6) (hT8 : T ≤ 8) {c len : Nat} {R' : Nat → Int32}
    (hW : qr_read B bl F E K T (bl + 1) 0 0 0 R = (c, len, R')) (h0 : c = 0 → ∀ at0, post (nI len) (nI n, nI bl, nI len, at0, fL, fX, fD, nI F, nI E, nI K, nI T, S, B, qd_fill O 0 R' len, R', EN)) (h1 : c ≠ 0 → ∀ at0, post (-nI c) (nI n, nI bl, nI ol, at0, fL, fX, fD, nI F, nI E, nI K, nI T, S, B, O, R', EN)) : wpY_decode post (nI n, nI bl, nI ol, at0, fL, fX, fD, nI F, nI E, nI K, nI T, S, B, O, R, EN) := by
  have hw := qr_read_b (bl := bl) (F := F) (E := E) (K := K) (T := T) hB (bl + 1) 0 0 0 R (by omega) hR
  rw [hW] at hw
  obtain ⟨w1, w2, w3⟩ := hw
  dsimp only at w1 w2 w3
  unfold wpY_decode
  refine qy_rd hB hb hE2 hF hK hT8 (fun W e at0 => ?_)
  rw [hW] at e
  subst e
  dsimp only
  by_cases c0 : c = 0
  · rw [c0, qr_ans0]
    have key := qy_de7 (ol := ol) (R := R') (O := O) w2 (h0 c0 at0) len 0 (by omega) (len + 1) (by omega)
    rw [qd_fill_0] at key
    exact ⟨_, key⟩
  · rw [qr_ansn c0]
    exact ⟨1, br_t (Int32.le_of_lt (qr_neg c0 w1)) (br_t (qr_neg c0 w1) (h1 c0 at0))⟩
def qi_eq (n : Nat) (S : Nat → Int32) (c len : Nat) (R : Nat → Int32) : Prop := c = 0 ∧ len = n ∧ ∀ j, j < n → R j = S j
theorem qx_su {post : Int32 → SX → Prop} (hB : qd_by B) (hR : qd_by R) (hE : 2 ≤ E) (hE2 : E ≤ 255) (hF2 : 2 ≤ F) (hF : F ≤ 15) (hK3 : 3 ≤ K) (hK : K ≤ 6) (hT8 : T ≤ 8) (hn : n ≤ 32) (hb : bl ≤ 64) {c len : Nat} {R' : Nat → Int32}
    (hW : qr_read B bl F E K T (bl + 1) 0 0 0 R = (c, len, R')) (h0 : qi_eq n S c len R' → ∀ cu PC PL PM PD pc pl pm pd, qx_tab F E K T n S PC PL PM PD pc pl pm pd 0 → post (nI bl - nI (pc 0)) (nI F, nI E, nI K, nI T, nI n, nI bl, nI ol, nI len, cu, S, B, O, R', PC, PL, PM, PD))
    (h1 : ¬ qi_eq n S c len R' → ∀ cu, post (-128) (nI F, nI E, nI K, nI T, nI n, nI bl, nI ol, nI len, cu, S, B, O, R', PC, PL, PM, PD)) : wpX_surplus post (nI F, nI E, nI K, nI T, nI n, nI bl, nI ol, rl, cu, S, B, O, R, PC, PL, PM, PD) := by
  have hw := qr_read_b (bl := bl) (F := F) (E := E) (K := K) (T := T) hB (bl + 1) 0 0 0 R (by omega) hR
  rw [hW] at hw
  obtain ⟨w1, w2, w3⟩ := hw
  dsimp only at w1 w2 w3
  unfold wpX_surplus
  refine qx_rb hB hb hE2 hF hK hT8 (fun W e cu => ?_)
  rw [hW] at e
  subst e
  dsimp only
  by_cases c0 : c = 0
  · rw [c0, qr_ans0]
    refine br_t (nI_pos' (by omega)) (qx_re w2 hn (fun e1 e2 => ?_) (fun z => ?_))
    · refine br_f qi_10 (qx_ps hE hE2 hF2 hF hK3 hK hT8 hn (fun PC PL PM PD pc pl pm pd ht => ?_))
      have t := h0 ⟨c0, e1, fun j hj => e2 j (by omega)⟩ cu PC PL PM PD pc pl pm pd ht
      rw [← (ht 0 (Nat.le_refl _) (Nat.zero_le _)).1] at t
      exact t
    · exact br_t rfl (h1 (fun y => z ⟨y.2.1, fun j hj => y.2.2 j (by have := y.2.1; omega)⟩) cu)
  · rw [qr_ansn c0]
    exact br_f (Int32.not_le.mpr (qr_neg c0 w1)) (h1 (fun y => c0 y.1) cu)
theorem qy_su {post : Int32 → SY → Prop} (hB : qd_by B) (hR : qd_by R) (hE : 2 ≤ E) (hE2 : E ≤ 255) (hF2 : 2 ≤ F) (hF : F ≤ 15) (hK3 : 3 ≤ K) (hK : K ≤ 6) (hT8 : T ≤ 8) (hn : n ≤ 32) (hb : bl ≤ 64) {c len : Nat} {R' : Nat → Int32}
    (hW : qr_read B bl F E K T (bl + 1) 0 0 0 R = (c, len, R'))
    (h0 : qi_eq n S c len R' → ∀ at0 w EN fL fX fD, 1 ≤ w → w ≤ 49 → qd_Loc S n F E K T (qd_en EN) w → qd_en EN 0 w → (∀ v, 1 ≤ v → v < w → ¬ qd_en EN 0 v) → post (nI bl - nI w) (nI n, nI bl, nI ol, at0, fL, fX, fD, nI F, nI E, nI K, nI T, S, B, O, R', EN))
    (h1 : ¬ qi_eq n S c len R' → ∀ at0, post (-128) (nI n, nI bl, nI ol, at0, fL, fX, fD, nI F, nI E, nI K, nI T, S, B, O, R', EN)) : wpY_surplus post (nI n, nI bl, nI ol, at0, fL, fX, fD, nI F, nI E, nI K, nI T, S, B, O, R, EN) := by
  have hw := qr_read_b (bl := bl) (F := F) (E := E) (K := K) (T := T) hB (bl + 1) 0 0 0 R (by omega) hR
  rw [hW] at hw
  obtain ⟨w1, w2, w3⟩ := hw
  dsimp only at w1 w2 w3
  unfold wpY_surplus
  refine qy_rd hB hb hE2 hF hK hT8 (fun W e at0 => ?_)
  rw [hW] at e
  subst e
  dsimp only
  by_cases c0 : c = 0
  · rw [c0, qr_ans0]
    by_cases c1 : len = n
    · refine br_t (by rw [c1]) ⟨n + 1, qy_su16 hn (fun z => qy_s hE hE2 hF2 hF hK3 hK hT8 hn (fun w EN fL fX fD g1 g2 g3 g4 g5 => h0 ⟨c0, c1, z⟩ at0 w EN fL fX fD g1 g2 g3 g4 g5)) (fun z => h1 (fun y => z y.2.2) at0) n 0 (by omega) lt_0 (n + 1) (by omega)⟩
    · exact br_f (fun z => c1 ((nI_eq (by omega) (by omega)).mp z)) (h1 (fun y => c1 y.2.1) at0)
  · rw [qr_ansn c0]
    refine br_f (fun z => ?_) (h1 (fun y => c0 y.1) at0)
    have := qr_neg c0 w1
    rw [z] at this
    exact nI_pos (by omega) this
theorem qx_en {post : Int32 → SX → Prop} (hE : 2 ≤ E) (hE2 : E ≤ 255) (hF2 : 2 ≤ F) (hF : F ≤ 15) (hK3 : 3 ≤ K) (hK : K ≤ 6) (hT8 : T ≤ 8) (hn : n ≤ 32)
    (h : ∀ PC PL PM PD pc pl pm pd, qx_tab F E K T n S PC PL PM PD pc pl pm pd 0 → pc 0 ≤ 49 → post (nI (qw S F E K pl pm pd 33 0 0 B).1) (nI F, nI E, nI K, nI T, nI n, nI (qw S F E K pl pm pd 33 0 0 B).1, nI ol, rl, cu, S, (qw S F E K pl pm pd 33 0 0 B).2, O, R, PC, PL, PM, PD)) : wpX_encode post (nI F, nI E, nI K, nI T, nI n, nI bl, nI ol, rl, cu, S, B, O, R, PC, PL, PM, PD) := by
  have h49 := qd_hd49 (F := F) (E := E) (l := n) hE hF2 hn
  unfold wpX_encode
  refine qx_ps hE hE2 hF2 hF hK3 hK hT8 hn (fun PC PL PM PD pc pl pm pd ht => ?_)
  have hc := (ht 0 (Nat.le_refl _) (Nat.zero_le _)).2.2.2.2.2.2.2.1 (Or.inl rfl)
  rw [Nat.sub_zero] at hc
  exact qx_wp hE hE2 hF2 hF hK3 hn ht (by omega) (h PC PL PM PD pc pl pm pd ht (by omega))
theorem qy_en {post : Int32 → SY → Prop} {pc pl pm pd : Nat → Nat} (hE : 2 ≤ E) (hE2 : E ≤ 255) (hF2 : 2 ≤ F) (hF : F ≤ 15) (hK3 : 3 ≤ K) (hK : K ≤ 6) (hT8 : T ≤ 8) (hn : n ≤ 32) (hS : qd_by S)
    (hP : ∀ p, p ≤ n → qd_PL S n F E K T pc pl pm pd p)
    (h : ∀ EN fL fX fD, post (nI (qw S F E K pl pm pd 33 0 0 B).1) (nI n, nI (qw S F E K pl pm pd 33 0 0 B).1, nI ol, at0, fL, fX, fD, nI F, nI E, nI K, nI T, S, (qw S F E K pl pm pd 33 0 0 B).2, O, R, EN)) : wpY_encode post (nI n, nI bl, nI ol, at0, fL, fX, fD, nI F, nI E, nI K, nI T, S, B, O, R, EN) := by
  unfold wpY_encode
  refine qy_s hE hE2 hF2 hF hK3 hK hT8 hn (fun w EN fL fX fD g1 g2 g3 g4 g5 => ?_)
  have e := qd_short hP g3 (by omega) g1 g4 g5
  exact ⟨34, qy_e14 hE hE2 hF2 hF hK3 hK hT8 hn hS hP g3 g2 33 0 0 (by omega) (by omega) (by omega) 0 B fL fX fD (by omega) (fun fL fX fD => h EN fL fX fD) 34 (by omega)⟩
end
