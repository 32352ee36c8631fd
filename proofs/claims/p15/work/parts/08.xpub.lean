/-! the small methods of both sides -/
theorem qr_number_c {B : Nat → Int32} {bl F E a x : Nat} (hB : qd_by B) : (qr_number B bl F E a x).1 ≤ 8 := by
  unfold qr_number
  split
  · exact Nat.zero_le _
  · have := (qr_num_b (E := E) hB (bl - a) a x).1
    omega
theorem qr_read_b {B : Nat → Int32} {bl F E K T : Nat} (hB : qd_by B) : ∀ g s a len res, len ≤ 32 → qd_by res →
    (qr_read B bl F E K T g s a len res).1 ≤ 8 ∧ (qr_read B bl F E K T g s a len res).2.1 ≤ 32 ∧ qd_by (qr_read B bl F E K T g s a len res).2.2 := by
  intro g
  induction g with
  | zero => intro s a len res hl hr; exact ⟨(by decide : 3 ≤ 8), hl, hr⟩
  | succ g ih =>
    intro s a len res hl hr
    rw [qr_read]
    have n1 := qr_number_c (bl := bl) (F := F) (E := E) (a := a + 1) (x := qr_c B a / 16) hB
    generalize qr_number B bl F E (a + 1) (qr_c B a / 16) = nl at n1
    obtain ⟨c, l, a2⟩ := nl
    split
    · exact ⟨(by decide : 3 ≤ 8), hl, hr⟩
    split
    · exact ⟨(by decide : 4 ≤ 8), hl, hr⟩
    unfold qr_l1
    dsimp only at n1 ⊢
    have hfil : qd_by (qd_fill res len (fun i => B (a2 + i)) l) := qd_by_fill hr (fun i _ => hB _)
    split
    · exact ⟨n1, hl, hr⟩
    split
    · exact ⟨(by decide : 3 ≤ 8), hl, hr⟩
    split
    · exact ⟨(by decide : 6 ≤ 8), hl, hr⟩
    rename_i h6
    split
    · split
      · exact ⟨(by decide : 7 ≤ 8), (by omega : len + l ≤ 32), hfil⟩
      · exact ⟨(by decide : 0 ≤ 8), (by omega : len + l ≤ 32), hfil⟩
    unfold qr_m1
    have n2 := qr_number_c (bl := bl) (F := F) (E := E) (a := a2 + l + 2) (x := qr_c B a % 16) hB
    generalize qr_number B bl F E (a2 + l + 2) (qr_c B a % 16) = nx at n2
    obtain ⟨c', x, a'⟩ := nx
    split
    · exact ⟨(by decide : 3 ≤ 8), (by omega : len + l ≤ 32), hfil⟩
    split
    · exact ⟨(by decide : 8 ≤ 8), (by omega : len + l ≤ 32), hfil⟩
    unfold qr_m2
    dsimp only at n2 ⊢
    split
    · exact ⟨n2, (by omega : len + l ≤ 32), hfil⟩
    split
    · exact ⟨(by decide : 6 ≤ 8), (by omega : len + l ≤ 32), hfil⟩
    rename_i h7
    exact ih _ _ _ _ (by omega) (qr_by_copy hfil _)
section
variable {F E K T n bl ol : Nat} {rl cu : Int32} {S B O R PC PL PM PD : Nat → Int32}
theorem qx_appS {post : St2 → Prop} {c : Int32} (hn : n < 32) (h : post (nI F, nI E, nI K, nI T, nI (n + 1), nI bl, nI ol, rl, cu, upd S n c, B, O, R, PC, PL, PM, PD)) : wpX_appendToSource post (nI F, nI E, nI K, nI T, nI n, nI bl, nI ol, rl, cu, S, B, O, R, PC, PL, PM, PD) c :=
  br_f (nI_ge (b := 32) hn (by decide)) ⟨vp_in_nI hn (by decide), nm_r qx_u (nm_r (nI_1 n) h)⟩
theorem qx_rp23 {post : Int32 → St2 → Prop} {v : Int32} {m : Nat} (hm : n + m ≤ 32) (h : post (nI (n + m)) (nI F, nI E, nI K, nI T, nI (n + m), nI bl, nI ol, rl, cu, qd_fill S n (fun _ => v &&& 255) m, B, O, R, PC, PL, PM, PD)) :
    ∀ k i, i + k = m → ∀ f, k < f → wX_repeat_23 post v (nI m) f (nI i) (nI F) (nI E) (nI K) (nI T) (nI (n + i)) (nI bl) (nI ol) rl cu (qd_fill S n (fun _ => v &&& 255) i) B O R PC PL PM PD := by
  intro k
  induction k with
  | zero =>
    intro i hi f hf
    obtain ⟨f, rfl⟩ : ∃ f', f = f' + 1 := ⟨f - 1, by omega⟩
    have e : i = m := by omega
    rw [e]
    exact br_t (nI_le (by omega) (by omega)) h
  | succ k ih =>
    intro i hi f hf
    obtain ⟨f, rfl⟩ : ∃ f', f = f' + 1 := ⟨f - 1, by omega⟩
    have key := ih (i + 1) (by omega) f (by omega)
    rw [← qd_fill_s] at key
    exact br_f (nI_ge (by omega) (by omega)) (qx_appS (by omega) (nm_r (nI_1 i) key))
theorem qx_ec39 {post : Int32 → St2 → Prop} {d m : Nat} (hd : 1 ≤ d) (hd2 : d ≤ n) (hm : n + m ≤ 32) (h : post (nI (n + m)) (nI F, nI E, nI K, nI T, nI (n + m), nI bl, nI ol, rl, cu, qr_copy S n d m, B, O, R, PC, PL, PM, PD)) :
    ∀ k i, i + k = m → ∀ f, k < f → wX_echo_39 post (nI d) (nI m) f (nI i) (nI F) (nI E) (nI K) (nI T) (nI (n + i)) (nI bl) (nI ol) rl cu (qr_copy S n d i) B O R PC PL PM PD := by
  intro k
  induction k with
  | zero =>
    intro i hi f hf
    obtain ⟨f, rfl⟩ : ∃ f', f = f' + 1 := ⟨f - 1, by omega⟩
    have e : i = m := by omega
    rw [e]
    exact br_t (nI_le (by omega) (by omega)) h
  | succ k ih =>
    intro i hi f hf
    obtain ⟨f, rfl⟩ : ∃ f', f = f' + 1 := ⟨f - 1, by omega⟩
    have es : nI (n + i) - nI d = nI (n + i - d) := pk_sub (by omega)
    refine br_f (nI_ge (by omega) (by omega)) ⟨by rw [es]; exact vp_in_nI (by omega) (by decide), ?_⟩
    rw [es, nI_clamp (by omega)]
    exact qx_appS (by omega) (nm_r (nI_1 i) (ih (i + 1) (by omega) f (by omega)))
theorem qi_f0 {a g : Nat → Int32} {i : Nat} (h : i < 2 ^ 31 := by omega) : upd (qd_fill a 0 g i) (nI i).toNatClampNeg (g (nI i).toNatClampNeg) = qd_fill a 0 g (i + 1) := by
  have := qd_fill_s a 0 g i
  rw [Nat.zero_add] at this
  rw [nI_clamp h]
  exact this
theorem qx_ad2 {post : Int32 → St2 → Prop} (ho : ol ≤ 32) (h : post (nI ol) (nI F, nI E, nI K, nI T, nI ol, nI bl, nI ol, rl, cu, qd_fill S 0 O ol, B, O, R, PC, PL, PM, PD)) :
    ∀ k i, i + k = ol → ∀ f, k < f → wX_adopt_2 post (nI F) (nI E) (nI K) (nI T) (nI n) (nI bl) (nI ol) rl cu f (nI i) (qd_fill S 0 O i) B O R PC PL PM PD := by
  intro k
  induction k with
  | zero =>
    intro i hi f hf
    obtain ⟨f, rfl⟩ : ∃ f', f = f' + 1 := ⟨f - 1, by omega⟩
    have e : i = ol := by omega
    rw [e]
    exact br_t (nI_le (by omega) (by omega)) h
  | succ k ih =>
    intro i hi f hf
    obtain ⟨f, rfl⟩ : ∃ f', f = f' + 1 := ⟨f - 1, by omega⟩
    have hv : vp_in (nI i) 32 := vp_in_nI (by omega) (by decide)
    exact br_f (nI_ge (by omega) (by omega)) ⟨hv, hv, nm_r qi_f0 (nm_r (nI_1 i) (ih (i + 1) (by omega) f (by omega)))⟩
theorem qx_de13 {post : Int32 → St2 → Prop} {len : Nat} (ho : len ≤ 32) (h : post (nI len) (nI F, nI E, nI K, nI T, nI n, nI bl, nI len, nI len, cu, S, B, qd_fill O 0 R len, R, PC, PL, PM, PD)) :
    ∀ k i, i + k = len → ∀ f, k < f → wX_decode_13 post (nI F) (nI E) (nI K) (nI T) (nI n) (nI bl) (nI ol) (nI len) cu f (nI i) S B (qd_fill O 0 R i) R PC PL PM PD := by
  intro k
  induction k with
  | zero =>
    intro i hi f hf
    obtain ⟨f, rfl⟩ : ∃ f', f = f' + 1 := ⟨f - 1, by omega⟩
    have e : i = len := by omega
    rw [e]
    exact br_t (nI_le (by omega) (by omega)) h
  | succ k ih =>
    intro i hi f hf
    obtain ⟨f, rfl⟩ : ∃ f', f = f' + 1 := ⟨f - 1, by omega⟩
    have hv : vp_in (nI i) 32 := vp_in_nI (by omega) (by decide)
    exact br_f (nI_ge (by omega) (by omega)) ⟨hv, hv, nm_r qi_f0 (nm_r (nI_1 i) (ih (i + 1) (by omega) f (by omega)))⟩
end
/-! the public methods of both sides, each with a general post -/
section
variable {F E K T n bl ol : Nat} {rl cu : Int32} {S B O R PC PL PM PD : Nat → Int32}
theorem qi_32 (h : n ≤ 32) : (32 : Int32) - nI n = nI (32 - n) := pk_sub (a := 32) h
theorem qx_rp {post : Int32 → St2 → Prop} {v : Int32} {m : Nat} (h1 : 1 ≤ m) (hm : n + m ≤ 32) (h : post (nI (n + m)) (nI F, nI E, nI K, nI T, nI (n + m), nI bl, nI ol, rl, cu, qd_fill S n (fun _ => v &&& 255) m, B, O, R, PC, PL, PM, PD)) : wpX_repeat post (nI F, nI E, nI K, nI T, nI n, nI bl, nI ol, rl, cu, S, B, O, R, PC, PL, PM, PD) v (nI m) := by
  have key := qx_rp23 hm h m 0 (by omega) (m + 1) (by omega)
  rw [qd_fill_0] at key
  exact br_t (nI_le (a := 1) h1 (by omega)) (br_t (by rw [qi_32 (by omega)]; exact nI_le (by omega) (by omega)) ⟨_, key⟩)
theorem qx_rpF {post : Int32 → St2 → Prop} {v : Int32} {m : Nat} (h1 : 1 ≤ m) (hj : m < 2 ^ 31) (hn : n ≤ 32) (hm : 32 < n + m) (h : post (-1) (nI F, nI E, nI K, nI T, nI n, nI bl, nI ol, rl, cu, S, B, O, R, PC, PL, PM, PD)) : wpX_repeat post (nI F, nI E, nI K, nI T, nI n, nI bl, nI ol, rl, cu, S, B, O, R, PC, PL, PM, PD) v (nI m) :=
  br_t (nI_le (a := 1) h1 hj) (br_f (by rw [qi_32 hn]; exact nI_ge (by omega) hj) h)
theorem qx_ec {post : Int32 → St2 → Prop} {d m : Nat} (hd : 1 ≤ d) (hd2 : d ≤ n) (h1 : 1 ≤ m) (hm : n + m ≤ 32) (h : post (nI (n + m)) (nI F, nI E, nI K, nI T, nI (n + m), nI bl, nI ol, rl, cu, qr_copy S n d m, B, O, R, PC, PL, PM, PD)) : wpX_echo post (nI F, nI E, nI K, nI T, nI n, nI bl, nI ol, rl, cu, S, B, O, R, PC, PL, PM, PD) (nI d) (nI m) :=
  br_f (nI_nlt (b := 1) hd (by omega)) (br_t (nI_le hd2 (by omega)) (br_t (nI_le (a := 1) h1 (by omega)) (br_t (by rw [qi_32 (by omega)]; exact nI_le (by omega) (by omega)) ⟨m + 1, qx_ec39 hd hd2 hm h m 0 (by omega) (m + 1) (by omega)⟩)))
theorem qx_ecF {post : Int32 → St2 → Prop} {d m : Nat} (hd : 1 ≤ d) (hd2 : d ≤ n) (hn : n ≤ 32) (h1 : 1 ≤ m) (hj : m < 2 ^ 31) (hm : 32 < n + m) (h : post (-1) (nI F, nI E, nI K, nI T, nI n, nI bl, nI ol, rl, cu, S, B, O, R, PC, PL, PM, PD)) : wpX_echo post (nI F, nI E, nI K, nI T, nI n, nI bl, nI ol, rl, cu, S, B, O, R, PC, PL, PM, PD) (nI d) (nI m) :=
  br_f (nI_nlt (b := 1) hd (by omega)) (br_t (nI_le hd2 (by omega)) (br_t (nI_le (a := 1) h1 hj) (br_f (by rw [qi_32 hn]; exact nI_ge (by omega) hj) h)))
theorem qx_ln {post : Int32 → Prop} {v : Int32} (h0 : v = 0 → post (nI n)) (h1 : v = 1 → post (nI bl)) (h2 : v = 2 → post (nI ol)) (h3 : ¬ v = 0 → ¬ v = 1 → ¬ v = 2 → post (-2)) : wpX_lengthOf post (nI F, nI E, nI K, nI T, nI n, nI bl, nI ol, rl, cu, S, B, O, R, PC, PL, PM, PD) v :=
  br_c h0 (fun a => br_c h1 (fun b => br_c h2 (fun c => h3 a b c)))
theorem qi_01 : ¬ (0 : Int32) = 1 := by decide
theorem qi_02 : ¬ (0 : Int32) = 2 := by decide
theorem qi_10 : ¬ (1 : Int32) = 0 := by decide
theorem qi_12 : ¬ (1 : Int32) = 2 := by decide
theorem qi_20 : ¬ (2 : Int32) = 0 := by decide
theorem qi_21 : ¬ (2 : Int32) = 1 := by decide
theorem qx_c0 {post : Int32 → St2 → Prop} {j : Nat} (hn : n ≤ 32) (hj : j < 2 ^ 31) (h1 : j ≤ n → post (nI j) (nI F, nI E, nI K, nI T, nI j, nI bl, nI ol, rl, cu, S, B, O, R, PC, PL, PM, PD)) (h2 : ¬ j ≤ n → post (-2) (nI F, nI E, nI K, nI T, nI n, nI bl, nI ol, rl, cu, S, B, O, R, PC, PL, PM, PD)) : wpX_cut post (nI F, nI E, nI K, nI T, nI n, nI bl, nI ol, rl, cu, S, B, O, R, PC, PL, PM, PD) 0 (nI j) := by
  refine br_t rfl ?_
  unfold wX_cut_12
  refine br_f (nI_pos hj) (qx_ln (fun _ => ?_) (fun z => absurd z qi_01) (fun z => absurd z qi_02) (fun z => absurd rfl z))
  by_cases c : j ≤ n
  · exact br_t (nI_le c (by omega)) (br_t rfl (h1 c))
  · exact br_f (nI_ge (by omega) hj) (h2 c)
theorem qx_c1 {post : Int32 → St2 → Prop} {j : Nat} (hn : bl ≤ 64) (hj : j < 2 ^ 31) (h1 : j ≤ bl → post (nI j) (nI F, nI E, nI K, nI T, nI n, nI j, nI ol, rl, cu, S, B, O, R, PC, PL, PM, PD)) (h2 : ¬ j ≤ bl → post (-2) (nI F, nI E, nI K, nI T, nI n, nI bl, nI ol, rl, cu, S, B, O, R, PC, PL, PM, PD)) : wpX_cut post (nI F, nI E, nI K, nI T, nI n, nI bl, nI ol, rl, cu, S, B, O, R, PC, PL, PM, PD) 1 (nI j) := by
  refine br_f qi_10 (br_t rfl ?_)
  unfold wX_cut_12
  refine br_f (nI_pos hj) (qx_ln (fun z => absurd z qi_10) (fun _ => ?_) (fun z => absurd z qi_12) (fun _ z => absurd rfl z))
  by_cases c : j ≤ bl
  · exact br_t (nI_le c (by omega)) (br_f qi_10 (h1 c))
  · exact br_f (nI_ge (by omega) hj) (h2 c)
theorem qx_cn {post : Int32 → St2 → Prop} {v w : Int32} (hw : w < 0) (h : post (-2) (nI F, nI E, nI K, nI T, nI n, nI bl, nI ol, rl, cu, S, B, O, R, PC, PL, PM, PD)) : wpX_cut post (nI F, nI E, nI K, nI T, nI n, nI bl, nI ol, rl, cu, S, B, O, R, PC, PL, PM, PD) v w := by
  refine br_c (fun _ => ?_) (fun _ => br_c (fun _ => ?_) (fun _ => h))
  · unfold wX_cut_12; exact br_t hw h
  · unfold wX_cut_12; exact br_t hw h
theorem qx_ad {post : Int32 → St2 → Prop} (ho : ol ≤ 32) (h : post (nI ol) (nI F, nI E, nI K, nI T, nI ol, nI bl, nI ol, rl, cu, qd_fill S 0 O ol, B, O, R, PC, PL, PM, PD)) : wpX_adopt post (nI F, nI E, nI K, nI T, nI n, nI bl, nI ol, rl, cu, S, B, O, R, PC, PL, PM, PD) := by
  have key := qx_ad2 (n := n) ho h ol 0 (by omega) (ol + 1) (by omega)
  rw [qd_fill_0] at key
  exact ⟨_, key⟩
theorem qx_de {post : Int32 → St2 → Prop} (hB : qd_by B) (hR : qd_by R) (hb : bl ≤ 64) (hE2 : E ≤ 255) (hF : F ≤ 15) (hK : K ≤ 6) (hT8 : T ≤ 8) {c len : Nat} {R' : Nat → Int32}
    (hW : qr_read B bl F E K T (bl + 1) 0 0 0 R = (c, len, R')) (h0 : c = 0 → ∀ cu, post (nI len) (nI F, nI E, nI K, nI T, nI n, nI bl, nI len, nI len, cu, S, B, qd_fill O 0 R' len, R', PC, PL, PM, PD)) (h1 : c ≠ 0 → ∀ cu, post (-nI c) (nI F, nI E, nI K, nI T, nI n, nI bl, nI ol, nI len, cu, S, B, O, R', PC, PL, PM, PD)) : wpX_decode post (nI F, nI E, nI K, nI T, nI n, nI bl, nI ol, rl, cu, S, B, O, R, PC, PL, PM, PD) := by
  have hw := qr_read_b (bl := bl) (F := F) (E := E) (K := K) (T := T) hB (bl + 1) 0 0 0 R (by omega) hR
  rw [hW] at hw
  obtain ⟨w1, w2, w3⟩ := hw
  dsimp only at w1 w2 w3
  unfold wpX_decode
  refine qx_rb hB hb hE2 hF hK hT8 (fun W e cu => ?_)
  rw [hW] at e
  subst e
  dsimp only
  by_cases c0 : c = 0
  · rw [c0, qr_ans0]
    have key := qx_de13 (ol := ol) (R := R') (O := O) w2 (h0 c0 cu) len 0 (by omega) (len + 1) (by omega)
    rw [qd_fill_0] at key
    exact br_t (nI_pos' (by omega)) ⟨_, key⟩
  · rw [qr_ansn c0]
    exact br_f (Int32.not_le.mpr (qr_neg c0 w1)) (h1 c0 cu)
def qi_eq (n : Nat) (S : Nat → Int32) (c len : Nat) (R : Nat → Int32) : Prop := c = 0 ∧ len = n ∧ ∀ j, j < n → R j = S j
theorem qx_su {post : Int32 → St2 → Prop} (hB : qd_by B) (hR : qd_by R) (hE : 2 ≤ E) (hE2 : E ≤ 255) (hF2 : 2 ≤ F) (hF : F ≤ 15) (hK3 : 3 ≤ K) (hK : K ≤ 6) (hT8 : T ≤ 8) (hn : n ≤ 32) (hb : bl ≤ 64) {c len : Nat} {R' : Nat → Int32}
    (hW : qr_read B bl F E K T (bl + 1) 0 0 0 R = (c, len, R')) (h0 : qi_eq n S c len R' → ∀ cu PC PL PM PD pc pl pm pd, qx_tab F E K T n S PC PL PM PD pc pl pm pd 0 → post (nI bl - nI (pc 0)) (nI F, nI E, nI K, nI T, nI n, nI bl, nI ol, nI len, cu, S, B, O, R', PC, PL, PM, PD))
    (h1 : ¬ qi_eq n S c len R' → ∀ cu, post (-128) (nI F, nI E, nI K, nI T, nI n, nI bl, nI ol, nI len, cu, S, B, O, R', PC, PL, PM, PD)) : wpX_surplus post (nI F, nI E, nI K, nI T, nI n, nI bl, nI ol, rl, cu, S, B, O, R, PC, PL, PM, PD) := by
  have hw := qr_read_b (bl := bl) (F := F) (E := E) (K := K) (T := T) hB (bl + 1) 0 0 0 R (by omega) hR
  rw [hW] at hw
  obtain ⟨w1, w2, w3⟩ := hw
  dsimp only at w1 w2 w3
  unfold wpX_surplus
  refine qx_rb hB hb hE2 hF hK hT8 (fun W e cu => ?_)
  rw [hW] at e
  subst e
  dsimp only
  by_cases c0 : c = 0
  · rw [c0, qr_ans0]
    refine br_t (nI_pos' (by omega)) (qx_re w2 hn (fun e1 e2 => ?_) (fun z => ?_))
    · refine br_f qi_10 (qx_ps hE hE2 hF2 hF hK3 hK hT8 hn (fun PC PL PM PD pc pl pm pd ht => ?_))
      have t := h0 ⟨c0, e1, fun j hj => e2 j (by omega)⟩ cu PC PL PM PD pc pl pm pd ht
      rw [← (ht 0 (Nat.le_refl _) (Nat.zero_le _)).1] at t
      exact t
    · exact br_t rfl (h1 (fun y => z ⟨y.2.1, fun j hj => y.2.2 j (by have := y.2.1; omega)⟩) cu)
  · rw [qr_ansn c0]
    exact br_f (Int32.not_le.mpr (qr_neg c0 w1)) (h1 (fun y => c0 y.1) cu)
theorem qx_en {post : Int32 → St2 → Prop} (hE : 2 ≤ E) (hE2 : E ≤ 255) (hF2 : 2 ≤ F) (hF : F ≤ 15) (hK3 : 3 ≤ K) (hK : K ≤ 6) (hT8 : T ≤ 8) (hn : n ≤ 32)
    (h : ∀ PC PL PM PD pc pl pm pd, qx_tab F E K T n S PC PL PM PD pc pl pm pd 0 → pc 0 ≤ 49 → post (nI (qw S F E K pl pm pd 33 0 0 B).1) (nI F, nI E, nI K, nI T, nI n, nI (qw S F E K pl pm pd 33 0 0 B).1, nI ol, rl, cu, S, (qw S F E K pl pm pd 33 0 0 B).2, O, R, PC, PL, PM, PD)) : wpX_encode post (nI F, nI E, nI K, nI T, nI n, nI bl, nI ol, rl, cu, S, B, O, R, PC, PL, PM, PD) := by
  have h49 := qd_hd49 (F := F) (E := E) (l := n) hE hF2 hn
  unfold wpX_encode
  refine qx_ps hE hE2 hF2 hF hK3 hK hT8 hn (fun PC PL PM PD pc pl pm pd ht => ?_)
  have hc := (ht 0 (Nat.le_refl _) (Nat.zero_le _)).2.2.2.2.2.2.2.1 (Or.inl rfl)
  rw [Nat.sub_zero] at hc
  exact qx_wp hE hE2 hF2 hF hK3 hn ht (by omega) (h PC PL PM PD pc pl pm pd ht (by omega))
end
