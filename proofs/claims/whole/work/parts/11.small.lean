/-! the small methods of both sides -/
theorem qr_number_c {B : Nat → Int32} {bl F E a x : Nat} (hB : qd_by B) : (qr_number B bl F E a x).1 ≤ 8 := by
  unfold qr_number
  split
  · exact Nat.zero_le _
  · have := (qr_num_b (E := E) hB (bl - a) a x).1
    omega
theorem qr_read_b {B : Nat → Int32} {bl F E K T : Nat} (hB : qd_by B) : ∀ g s a len res, len ≤ 32 → qd_by res →
    (qr_read B bl F E K T g s a len res).1 ≤ 8 ∧ (qr_read B bl F E K T g s a len res).2.1 ≤ 32 ∧ qd_by (qr_read B bl F E K T g s a len res).2.2 := by
  intro g
  induction g with
  | zero => intro s a len res hl hr; exact ⟨(by decide : 3 ≤ 8), hl, hr⟩
  | succ g ih =>
    intro s a len res hl hr
    rw [qr_read]
    have n1 := qr_number_c (bl := bl) (F := F) (E := E) (a := a + 1) (x := qr_c B a / 16) hB
    generalize qr_number B bl F E (a + 1) (qr_c B a / 16) = nl at n1
    obtain ⟨c, l, a2⟩ := nl
    split
    · exact ⟨(by decide : 3 ≤ 8), hl, hr⟩
    split
    · exact ⟨(by decide : 4 ≤ 8), hl, hr⟩
    unfold qr_l1
    dsimp only at n1 ⊢
    have hfil : qd_by (qd_fill res len (fun i => B (a2 + i)) l) := qd_by_fill hr (fun i _ => hB _)
    split
    · exact ⟨n1, hl, hr⟩
    split
    · exact ⟨(by decide : 3 ≤ 8), hl, hr⟩
    split
    · exact ⟨(by decide : 6 ≤ 8), hl, hr⟩
    rename_i h6
    split
    · split
      · exact ⟨(by decide : 7 ≤ 8), (by omega : len + l ≤ 32), hfil⟩
      · exact ⟨(by decide : 0 ≤ 8), (by omega : len + l ≤ 32), hfil⟩
    unfold qr_m1
    have n2 := qr_number_c (bl := bl) (F := F) (E := E) (a := a2 + l + 2) (x := qr_c B a % 16) hB
    generalize qr_number B bl F E (a2 + l + 2) (qr_c B a % 16) = nx at n2
    obtain ⟨c', x, a'⟩ := nx
    split
    · exact ⟨(by decide : 3 ≤ 8), (by omega : len + l ≤ 32), hfil⟩
    split
    · exact ⟨(by decide : 8 ≤ 8), (by omega : len + l ≤ 32), hfil⟩
    unfold qr_m2
    dsimp only at n2 ⊢
    split
    · exact ⟨n2, (by omega : len + l ≤ 32), hfil⟩
    split
    · exact ⟨(by decide : 6 ≤ 8), (by omega : len + l ≤ 32), hfil⟩
    rename_i h7
    exact ih _ _ _ _ (by omega) (qr_by_copy hfil _)
section
variable {F E K T n bl ol : Nat} {rl cu : Int32} {S B O R PC PL PM PD : Nat → Int32} {at0 fL fX fD : Int32} {EN : Nat → Int32}
theorem qx_appS {post : SX → Prop} {c : Int32} (hn : n < 32) (h : post (nI F, nI E, nI K, nI T, nI (n + 1), nI bl, nI ol, rl, cu, upd S n c, B, O, R, PC, PL, PM, PD)) : wpX_appendToSource post (nI F, nI E, nI K, nI T, nI n, nI bl, nI ol, rl, cu, S, B, O, R, PC, PL, PM, PD) c :=
  br_f (nI_ge (b := 32) hn (by decide)) ⟨vp_in_nI hn (by decide), nm_r qx_u (nm_r (nI_1 n) h)⟩
theorem qx_rp23 {post : Int32 → SX → Prop} {v : Int32} {m : Nat} (hm : n + m ≤ 32) (h : post (nI (n + m)) (nI F, nI E, nI K, nI T, nI (n + m), nI bl, nI ol, rl, cu, qd_fill S n (fun _ => v &&& 255) m, B, O, R, PC, PL, PM, PD)) :
    ∀ k i, i + k = m → ∀ f, k < f → wX_repeat_23 post v (nI m) f (nI i) (nI F) (nI E) (nI K) (nI T) (nI (n + i)) (nI bl) (nI ol) rl cu (qd_fill S n (fun _ => v &&& 255) i) B O R PC PL PM PD := by
  intro k
  induction k with
  | zero =>
    intro i hi f hf
    obtain ⟨f, rfl⟩ : ∃ f', f = f' + 1 := ⟨f - 1, by omega⟩
    have e : i = m := by omega
    rw [e]
    exact br_t (nI_le (by omega) (by omega)) h
  | succ k ih =>
    intro i hi f hf
    obtain ⟨f, rfl⟩ : ∃ f', f = f' + 1 := ⟨f - 1, by omega⟩
    have key := ih (i + 1) (by omega) f (by omega)
    rw [← qd_fill_s] at key
    exact br_f (nI_ge (by omega) (by omega)) (qx_appS (by omega) (nm_r (nI_1 i) key))
theorem qy_rp23 {post : Int32 → SY → Prop} {v : Int32} {m : Nat} (hm : n + m ≤ 32) (h : post (nI (n + m)) (nI (n + m), nI bl, nI ol, at0, fL, fX, fD, nI F, nI E, nI K, nI T, qd_fill S n (fun _ => v &&& 255) m, B, O, R, EN)) :
    ∀ k i, i + k = m → ∀ f, k < f → wY_repeat_23 post v (nI m) (nI bl) (nI ol) at0 fL fX fD (nI F) (nI E) (nI K) (nI T) f (nI i) (nI (n + i)) (qd_fill S n (fun _ => v &&& 255) i) B O R EN := by
  intro k
  induction k with
  | zero =>
    intro i hi f hf
    obtain ⟨f, rfl⟩ : ∃ f', f = f' + 1 := ⟨f - 1, by omega⟩
    have e : i = m := by omega
    rw [e]
    exact br_t (nI_le (by omega) (by omega)) h
  | succ k ih =>
    intro i hi f hf
    obtain ⟨f, rfl⟩ : ∃ f', f = f' + 1 := ⟨f - 1, by omega⟩
    have key := ih (i + 1) (by omega) f (by omega)
    rw [← qd_fill_s] at key
    exact br_f (nI_ge (by omega) (by omega)) (nm_r (nI_1 _) ⟨vp_in_nI (by omega) (by decide), nm_r qx_u (nm_r (nI_1 i) key)⟩)
theorem qx_ec39 {post : Int32 → SX → Prop} {d m : Nat} (hd : 1 ≤ d) (hd2 : d ≤ n) (hm : n + m ≤ 32) (h : post (nI (n + m)) (nI F, nI E, nI K, nI T, nI (n + m), nI bl, nI ol, rl, cu, qr_copy S n d m, B, O, R, PC, PL, PM, PD)) :
    ∀ k i, i + k = m → ∀ f, k < f → wX_echo_39 post (nI d) (nI m) f (nI i) (nI F) (nI E) (nI K) (nI T) (nI (n + i)) (nI bl) (nI ol) rl cu (qr_copy S n d i) B O R PC PL PM PD := by
  intro k
  induction k with
  | zero =>
    intro i hi f hf
    obtain ⟨f, rfl⟩ : ∃ f', f = f' + 1 := ⟨f - 1, by omega⟩
    have e : i = m := by omega
    rw [e]
    exact br_t (nI_le (by omega) (by omega)) h
  | succ k ih =>
    intro i hi f hf
    obtain ⟨f, rfl⟩ : ∃ f', f = f' + 1 := ⟨f - 1, by omega⟩
    have es : nI (n + i) - nI d = nI (n + i - d) := pk_sub (by omega)
    refine br_f (nI_ge (by omega) (by omega)) ⟨by rw [es]; exact vp_in_nI (by omega) (by decide), ?_⟩
    rw [es, nI_clamp (by omega)]
    exact qx_appS (by omega) (nm_r (nI_1 i) (ih (i + 1) (by omega) f (by omega)))
theorem qy_ec36 {post : Int32 → SY → Prop} {d m : Nat} (hd : 1 ≤ d) (hd2 : d ≤ n) (hm : n + m ≤ 32) (h : post (nI (n + m)) (nI (n + m), nI bl, nI ol, at0, fL, fX, fD, nI F, nI E, nI K, nI T, qr_copy S n d m, B, O, R, EN)) :
    ∀ k i, i + k = m → ∀ f, k < f → wY_echo_36 post (nI d) (nI m) (nI bl) (nI ol) at0 fL fX fD (nI F) (nI E) (nI K) (nI T) f (nI i) (nI (n + i)) (qr_copy S n d i) B O R EN := by
  intro k
  induction k with
  | zero =>
    intro i hi f hf
    obtain ⟨f, rfl⟩ : ∃ f', f = f' + 1 := ⟨f - 1, by omega⟩
    have e : i = m := by omega
    rw [e]
    exact br_t (nI_le (by omega) (by omega)) h
  | succ k ih =>
    intro i hi f hf
    obtain ⟨f, rfl⟩ : ∃ f', f = f' + 1 := ⟨f - 1, by omega⟩
    have es : nI (n + i) - nI d = nI (n + i - d) := pk_sub (by omega)
    refine br_f (nI_ge (by omega) (by omega)) ⟨by rw [es]; exact vp_in_nI (by omega) (by decide), vp_in_nI (by omega) (by decide), nm_r (e' := qr_copy S n d (i + 1)) ?_ (nm_r (nI_1 i) (nm_r (nI_1 _) (ih (i + 1) (by omega) f (by omega))))⟩
    rw [es, nI_clamp (by omega), nI_clamp (by omega), qr_copy]
theorem qi_f0 {a g : Nat → Int32} {i : Nat} (h : i < 2 ^ 31 := by omega) : upd (qd_fill a 0 g i) (nI i).toNatClampNeg (g (nI i).toNatClampNeg) = qd_fill a 0 g (i + 1) := by
  have := qd_fill_s a 0 g i
  rw [Nat.zero_add] at this
  rw [nI_clamp h]
  exact this
theorem qx_ad2 {post : Int32 → SX → Prop} (ho : ol ≤ 32) (h : post (nI ol) (nI F, nI E, nI K, nI T, nI ol, nI bl, nI ol, rl, cu, qd_fill S 0 O ol, B, O, R, PC, PL, PM, PD)) :
    ∀ k i, i + k = ol → ∀ f, k < f → wX_adopt_2 post (nI F) (nI E) (nI K) (nI T) (nI n) (nI bl) (nI ol) rl cu f (nI i) (qd_fill S 0 O i) B O R PC PL PM PD := by
  intro k
  induction k with
  | zero =>
    intro i hi f hf
    obtain ⟨f, rfl⟩ : ∃ f', f = f' + 1 := ⟨f - 1, by omega⟩
    have e : i = ol := by omega
    rw [e]
    exact br_t (nI_le (by omega) (by omega)) h
  | succ k ih =>
    intro i hi f hf
    obtain ⟨f, rfl⟩ : ∃ f', f = f' + 1 := ⟨f - 1, by omega⟩
    have hv : vp_in (nI i) 32 := vp_in_nI (by omega) (by decide)
    exact br_f (nI_ge (by omega) (by omega)) ⟨hv, hv, nm_r qi_f0 (nm_r (nI_1 i) (ih (i + 1) (by omega) f (by omega)))⟩
theorem qy_ad5 {post : Int32 → SY → Prop} (ho : ol ≤ 32) (h : post (nI ol) (nI ol, nI bl, nI ol, at0, fL, fX, fD, nI F, nI E, nI K, nI T, qd_fill S 0 O ol, B, O, R, EN)) :
    ∀ k i, i + k = ol → ∀ f, k < f → wY_adopt_5 post (nI bl) (nI ol) at0 fL fX fD (nI F) (nI E) (nI K) (nI T) f (nI i) (qd_fill S 0 O i) B O R EN := by
  intro k
  induction k with
  | zero =>
    intro i hi f hf
    obtain ⟨f, rfl⟩ : ∃ f', f = f' + 1 := ⟨f - 1, by omega⟩
    have e : i = ol := by omega
    rw [e]
    exact br_t (nI_le (by omega) (by omega)) h
  | succ k ih =>
    intro i hi f hf
    obtain ⟨f, rfl⟩ : ∃ f', f = f' + 1 := ⟨f - 1, by omega⟩
    have hv : vp_in (nI i) 32 := vp_in_nI (by omega) (by decide)
    exact br_f (nI_ge (by omega) (by omega)) ⟨hv, hv, nm_r qi_f0 (nm_r (nI_1 i) (ih (i + 1) (by omega) f (by omega)))⟩
theorem qx_de13 {post : Int32 → SX → Prop} {len : Nat} (ho : len ≤ 32) (h : post (nI len) (nI F, nI E, nI K, nI T, nI n, nI bl, nI len, nI len, cu, S, B, qd_fill O 0 R len, R, PC, PL, PM, PD)) :
    ∀ k i, i + k = len → ∀ f, k < f → wX_decode_13 post (nI F) (nI E) (nI K) (nI T) (nI n) (nI bl) (nI ol) (nI len) cu f (nI i) S B (qd_fill O 0 R i) R PC PL PM PD := by
  intro k
  induction k with
  | zero =>
    intro i hi f hf
    obtain ⟨f, rfl⟩ : ∃ f', f = f' + 1 := ⟨f - 1, by omega⟩
    have e : i = len := by omega
    rw [e]
    exact br_t (nI_le (by omega) (by omega)) h
  | succ k ih =>
    intro i hi f hf
    obtain ⟨f, rfl⟩ : ∃ f', f = f' + 1 := ⟨f - 1, by omega⟩
    have hv : vp_in (nI i) 32 := vp_in_nI (by omega) (by decide)
    exact br_f (nI_ge (by omega) (by omega)) ⟨hv, hv, nm_r qi_f0 (nm_r (nI_1 i) (ih (i + 1) (by omega) f (by omega)))⟩
theorem qy_de7 {post : Int32 → SY → Prop} {len : Nat} (ho : len ≤ 32) (h : post (nI len) (nI n, nI bl, nI len, at0, fL, fX, fD, nI F, nI E, nI K, nI T, S, B, qd_fill O 0 R len, R, EN)) :
    ∀ k i, i + k = len → ∀ f, k < f → wY_decode_7 post (nI len) (nI n) (nI bl) (nI ol) at0 fL fX fD (nI F) (nI E) (nI K) (nI T) f (nI i) S B (qd_fill O 0 R i) R EN := by
  intro k
  induction k with
  | zero =>
    intro i hi f hf
    obtain ⟨f, rfl⟩ : ∃ f', f = f' + 1 := ⟨f - 1, by omega⟩
    have e : i = len := by omega
    rw [e]
    exact br_t (nI_le (by omega) (by omega)) (br_f (nI_pos (by omega)) h)
  | succ k ih =>
    intro i hi f hf
    obtain ⟨f, rfl⟩ : ∃ f', f = f' + 1 := ⟨f - 1, by omega⟩
    have hv : vp_in (nI i) 32 := vp_in_nI (by omega) (by decide)
    exact br_f (nI_ge (by omega) (by omega)) ⟨hv, hv, nm_r qi_f0 (nm_r (nI_1 i) (ih (i + 1) (by omega) f (by omega)))⟩
theorem qy_su16 {post : Int32 → SY → Prop} (hn : n ≤ 32) (h1 : (∀ j, j < n → R j = S j) → wpY_shortest (fun r u => match u with
      | (a1, a2, a3, a4, a5, a6, a7, a8, a9, a10, a11, a12, a13, a14, a15, a16) => post (nI bl - r) (a1, a2, a3, a4, a5, a6, a7, a8, a9, a10, a11, a12, a13, a14, a15, a16)) (nI n, nI bl, nI ol, at0, fL, fX, fD, nI F, nI E, nI K, nI T, S, B, O, R, EN))
    (h0 : ¬ (∀ j, j < n → R j = S j) → post (-128) (nI n, nI bl, nI ol, at0, fL, fX, fD, nI F, nI E, nI K, nI T, S, B, O, R, EN)) :
    ∀ k i, i + k = n → (∀ j, j < i → R j = S j) → ∀ f, k < f → wY_surplus_16 post (nI n) (nI bl) (nI ol) at0 fL fX fD (nI F) (nI E) (nI K) (nI T) S B O R EN f (nI i) := by
  intro k
  induction k with
  | zero =>
    intro i hi hr f hf
    obtain ⟨f, rfl⟩ : ∃ f', f = f' + 1 := ⟨f - 1, by omega⟩
    exact br_t (nI_le (by omega) (by omega)) (h1 (fun j hj => hr j (by omega)))
  | succ k ih =>
    intro i hi hr f hf
    obtain ⟨f, rfl⟩ : ∃ f', f = f' + 1 := ⟨f - 1, by omega⟩
    have hv : vp_in (nI i) 32 := vp_in_nI (by omega) (by decide)
    refine br_f (nI_ge (by omega) (by omega)) ⟨hv, hv, ?_⟩
    rw [qx_g (a := R), qx_g (a := S)]
    by_cases c : R i = S i
    · exact br_t c (nm_r (nI_1 i) (ih (i + 1) (by omega) (lt_s hr c) f (by omega)))
    · exact br_f c (h0 (fun z => c (z i (by omega))))
end
theorem qi_clamp (v : Int32) (lo hi : Nat) (h : lo ≤ hi) (hh : hi < 1000) : ∃ F, lo ≤ F ∧ F ≤ hi ∧ (∀ post : Int32 → Prop, post (nI F) → wpX_clamp post v (nI lo) (nI hi)) ∧ (∀ (post : Int32 → Prop) (u : SY), post (nI F) → wpY_clamp post u v (nI lo) (nI hi)) := by
  by_cases c : nI lo ≤ v
  · have h0 : ¬ v < 0 := fun z => absurd (Int32.lt_of_le_of_lt (Int32.le_trans (nI_pos' (by omega)) c) z) Int32.lt_irrefl
    obtain ⟨j, hj, rfl⟩ := nI_of h0
    rw [nI_leI (by omega) hj] at c
    by_cases c2 : j ≤ hi
    · refine ⟨j, c, c2, fun post hp => br_t (nI_le c hj) (br_t (nI_le c2 (by omega)) hp), fun post u hp => ?_⟩
      obtain ⟨a1, a2, a3, a4, a5, a6, a7, a8, a9, a10, a11, a12, a13, a14, a15, a16⟩ := u
      exact br_t (nI_le c hj) (br_t (nI_le c2 (by omega)) hp)
    · refine ⟨hi, h, Nat.le_refl _, fun post hp => br_t (nI_le c hj) (br_f (nI_ge (by omega) hj) hp), fun post u hp => ?_⟩
      obtain ⟨a1, a2, a3, a4, a5, a6, a7, a8, a9, a10, a11, a12, a13, a14, a15, a16⟩ := u
      exact br_t (nI_le c hj) (br_f (nI_ge (by omega) hj) hp)
  · refine ⟨lo, Nat.le_refl _, h, fun post hp => br_f c hp, fun post u hp => ?_⟩
    obtain ⟨a1, a2, a3, a4, a5, a6, a7, a8, a9, a10, a11, a12, a13, a14, a15, a16⟩ := u
    exact br_f c hp
