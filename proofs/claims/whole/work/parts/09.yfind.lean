/-! the reference's search -/
theorem qy_cmp {F E x i : Nat} (hE : 2 ≤ E) (hE2 : E ≤ 255) (hF : F ≤ 15) (hx : x ≤ 32) (hi : i ≤ 33) : nI x - nI F < nI i * nI E ↔ qd_ext F E x ≤ i := by
  have hm : i * E ≤ 33 * 255 := Nat.mul_le_mul hi hE2
  by_cases c : F ≤ x
  · have := qd_ext_i (i := i) (show 0 < E by omega) c
    rw [pk_sub c, pk_mul, nI_ltI (by omega) (by omega)]
    omega
  · rw [pk_mul, Int32.lt_iff_toInt_lt, pk_sub_toInt (by omega) (by omega), nI_toInt (by omega), qd_ext_lt (by omega)]
    generalize i * E = w
    omega
theorem qy_left {c h e : Nat} (hc : c ≤ 100) (hh : h ≤ 100) (he : e ≤ 100) : (nI c - nI h - 2 - nI e ≤ 0 ↔ c ≤ h + (2 + e)) ∧ (h + (2 + e) < c → nI c - nI h - 2 - nI e = nI (c - (h + (2 + e)))) := by
  have e1 : nI c - nI h - 2 - nI e = nI c - nI (h + (2 + e)) := by
    rw [← nI_add, ← nI_add, show nI 2 = (2 : Int32) from rfl]
    generalize nI c = x
    generalize nI h = y
    generalize nI e = z
    grind
  rw [e1]
  refine ⟨?_, fun z => pk_sub (by omega)⟩
  rw [Int32.le_iff_toInt_le, pk_sub_toInt (by omega) (by omega), show (0 : Int32).toInt = 0 from by decide]
  omega
section
variable {F E K T n bl ol : Nat} {at0 fL fX fD : Int32} {S B O R EN : Nat → Int32}
theorem qy_xc4 {post : Int32 → Prop} {x : Nat} (hE : 2 ≤ E) (hE2 : E ≤ 255) (hF2 : 2 ≤ F) (hF : F ≤ 15) (hx : x ≤ 32) (h : post (nI (qd_ext F E x))) :
    ∀ k i, i + k = qd_ext F E x → ∀ f, k < f → wY_extCells_4 post (nI x) (nI n) (nI bl) (nI ol) at0 fL fX fD (nI F) (nI E) (nI K) (nI T) S B O R EN f (nI i) (nI i) := by
  have h16 := qd_ext16 (F := F) (E := E) (x := x) hE hF2 hx
  intro k
  induction k with
  | zero =>
    intro i hi f hf
    obtain ⟨f, rfl⟩ : ∃ f', f = f' + 1 := ⟨f - 1, by omega⟩
    have e : qd_ext F E x = i := by omega
    rw [e] at h
    exact br_f (nI_nlt (a := 32) (by omega) (by decide)) (br_t ((qy_cmp hE hE2 hF hx (by omega)).mpr (by omega)) h)
  | succ k ih =>
    intro i hi f hf
    obtain ⟨f, rfl⟩ : ∃ f', f = f' + 1 := ⟨f - 1, by omega⟩
    exact br_f (nI_nlt (a := 32) (by omega) (by decide)) (br_f (fun z => absurd ((qy_cmp hE hE2 hF hx (by omega)).mp z) (by omega)) (nm_r (nI_1 i) (nm_r (nI_1 i) (ih (i + 1) (by omega) f (by omega)))))
theorem qy_xc {post : Int32 → Prop} {x : Nat} (hE : 2 ≤ E) (hE2 : E ≤ 255) (hF2 : 2 ≤ F) (hF : F ≤ 15) (hx : x ≤ 32) (h : post (nI (qd_ext F E x))) : wpY_extCells post (nI n, nI bl, nI ol, at0, fL, fX, fD, nI F, nI E, nI K, nI T, S, B, O, R, EN) (nI x) :=
  ⟨qd_ext F E x + 1, qy_xc4 hE hE2 hF2 hF hx h (qd_ext F E x) 0 (by omega) (qd_ext F E x + 1) (by omega)⟩
theorem qy_ds13 {post J : Int32 → Prop} {q m d : Nat} (hq : q + m ≤ 32) (hd : d ≤ q) (h1 : qd_rep S q m d → post (nI d)) (h0 : ¬ qd_rep S q m d → J (nI (d + 1))) :
    ∀ k i w, i + k = m → w ≤ i → (w = i ↔ ∀ j, j < i → S (q + j) = S (q + j - d)) → ∀ f, k < f → wY_distance_13 post J (nI q) (nI m) (nI d) (nI n) (nI bl) (nI ol) at0 fL fX fD (nI F) (nI E) (nI K) (nI T) S B O R EN f (nI w) (nI i) := by
  intro k
  induction k with
  | zero =>
    intro i w hi hw hr f hf
    obtain ⟨f, rfl⟩ : ∃ f', f = f' + 1 := ⟨f - 1, by omega⟩
    have e : i = m := by omega
    subst e
    refine br_t (nI_le (by omega) (by omega)) ?_
    by_cases c : w = i
    · exact br_t (by rw [c]) (h1 (hr.mp c))
    · exact br_f (fun z => c ((nI_eq (by omega) (by omega)).mp z)) (nm_r (nI_1 d) (h0 (fun z => c (hr.mpr z))))
  | succ k ih =>
    intro i w hi hw hr f hf
    obtain ⟨f, rfl⟩ : ∃ f', f = f' + 1 := ⟨f - 1, by omega⟩
    have ea : nI q + nI i = nI (q + i) := nI_add _ _
    have es : nI (q + i) - nI d = nI (q + i - d) := pk_sub (by omega)
    refine br_f (nI_ge (by omega) (by omega)) ⟨by rw [ea]; exact vp_in_nI (by omega) (by decide), by rw [ea, es]; exact vp_in_nI (by omega) (by decide), ?_⟩
    rw [ea, es, nI_clamp (by omega), nI_clamp (by omega)]
    by_cases c : S (q + i) = S (q + i - d)
    · refine br_t c (nm_r (nI_1 w) (nm_r (nI_1 i) (ih (i + 1) (w + 1) (by omega) (by omega) ⟨fun z => lt_s (hr.mp (by omega)) c, fun z => ?_⟩ f (by omega))))
      have := hr.mpr (fun j hj => z j (by omega))
      omega
    · refine br_f c (nm_r (nI_1 i) (ih (i + 1) w (by omega) (by omega) ⟨fun z => absurd z (by omega), fun z => absurd (z i (by omega)) c⟩ f (by omega)))
theorem qy_ds2 {post : Int32 → Prop} {q m : Nat} (hq : q + m ≤ 32) (h : post (nI (qd_D S q m))) :
    ∀ k d, d + k = q + 1 → 1 ≤ d → (∀ e, 1 ≤ e → e < d → ¬ qd_rep S q m e) → ∀ f, k < f → wY_distance_2 post (nI q) (nI m) (nI n) (nI bl) (nI ol) at0 fL fX fD (nI F) (nI E) (nI K) (nI T) S B O R EN f (nI d) := by
  intro k
  induction k with
  | zero =>
    intro d hd h1 hr f hf
    obtain ⟨f, rfl⟩ : ∃ f', f = f' + 1 := ⟨f - 1, by omega⟩
    have e : qd_D S q m = 0 := qd_De (Or.inl ⟨rfl, fun e g1 g2 => hr e g1 (by omega)⟩)
    rw [e] at h
    exact br_t (nI_lt (by omega) (by omega)) h
  | succ k ih =>
    intro d hd h1 hr f hf
    obtain ⟨f, rfl⟩ : ∃ f', f = f' + 1 := ⟨f - 1, by omega⟩
    refine br_f (nI_nlt (by omega) (by omega)) ⟨m + 1, qy_ds13 hq (by omega) (fun y => ?_) (fun y => ?_) m 0 0 (by omega) (by omega) ⟨fun _ => lt_0, fun _ => rfl⟩ (m + 1) (by omega)⟩
    · have e : qd_D S q m = d := qd_De (Or.inr ⟨h1, by omega, y, hr⟩)
      rw [e] at h
      exact h
    · refine ih (d + 1) (by omega) (by omega) (fun e g1 g2 => ?_) f (by omega)
      by_cases c : e = d
      · rw [c]; exact y
      · exact hr e g1 (by omega)
theorem qy_ds {post : Int32 → Prop} {q m : Nat} (hq : q + m ≤ 32) (h : post (nI (qd_D S q m))) : wpY_distance post (nI n, nI bl, nI ol, at0, fL, fX, fD, nI F, nI E, nI K, nI T, S, B, O, R, EN) (nI q) (nI m) :=
  ⟨q + 2, qy_ds2 hq h q 1 (by omega) (by omega) (fun e g1 g2 => absurd g2 (by omega)) (q + 2) (by omega)⟩
theorem qy_152 {post : Int32 → SY → Prop} {J2 : Int32 → Int32 → Int32 → Int32 → Prop} {J86 : Int32 → Int32 → Int32 → Prop} {x1 x2 x3 x4 x5 x6 : Int32} (h : J86 (x6 + (-1)) x6 0) : wY_find_152 post J2 J86 x1 x2 x3 x4 x5 x6 (nI n) (nI bl) (nI ol) at0 fL fX 0 (nI F) (nI E) (nI K) (nI T) S B O R EN := by
  unfold wY_find_152
  exact br_t (by decide) (nm_e h)
theorem qy_f86 {post : Int32 → SY → Prop} {J : Int32 → Int32 → Int32 → Int32 → Prop} {p c l : Nat} (hE : 2 ≤ E) (hE2 : E ≤ 255) (hF2 : 2 ≤ F) (hF : F ≤ 15) (hK3 : 3 ≤ K) (hn : n ≤ 32) (hc : c ≤ 64) (hl : p + l ≤ n)
    (hJ : ∀ m0, m0 < K → qd_none S n F E K (qd_en EN) p c l m0 → ∀ fX, J (nI (l + 1)) (nI l) fX 0)
    (hm : ∀ m, qd_yok S n F E K (qd_en EN) p c l m → (∀ a b, qd_bef a b l m → ¬ qd_yok S n F E K (qd_en EN) p c a b) → post 1 (nI n, nI bl, nI ol, at0, nI l, nI (m - K), nI (qd_D S (p + l) m), nI F, nI E, nI K, nI T, S, B, O, R, EN)) :
    ∀ k, p + l + K + k ≤ n + 1 → qd_none S n F E K (qd_en EN) p c l (K + k - 1) → ∀ fX f, k < f →
      wY_find_86 post J (nI p) (nI c) (nI l) (nI (p + l)) (nI (qd_hd F E l)) (nI n) (nI bl) (nI ol) at0 (nI l) (nI F) (nI E) (nI K) (nI T) S B O R EN f (nI k + (-1)) fX 0 := by
  have h49 := qd_hd49 (F := F) (E := E) (l := l) hE hF2 (by omega)
  intro k
  induction k with
  | zero =>
    intro hk hno fX f hf
    obtain ⟨f, rfl⟩ : ∃ f', f = f' + 1 := ⟨f - 1, by omega⟩
    exact br_t (by decide) (nm_r (nI_1 l) (hJ (K + 0 - 1) (by omega) hno fX))
  | succ x ih =>
    intro hk hno fX f hf
    obtain ⟨f, rfl⟩ : ∃ f', f = f' + 1 := ⟨f - 1, by omega⟩
    rw [pk_m1]
    have h16 := qd_ext16 (F := F) (E := E) (x := x) hE hF2 (by omega)
    obtain ⟨l1, l2⟩ := qy_left (c := c) (h := qd_hd F E l) (e := qd_ext F E x) (by omega) (by omega) (by omega)
    have eK : K + x - K = x := by omega
    have hsk : ¬ qd_yok S n F E K (qd_en EN) p c l (K + x) → wY_find_86 post J (nI p) (nI c) (nI l) (nI (p + l)) (nI (qd_hd F E l)) (nI n) (nI bl) (nI ol) at0 (nI l) (nI F) (nI E) (nI K) (nI T) S B O R EN f (nI x + (-1)) (nI x) 0 :=
      fun z => ih (by omega) (by have := qd_none_skip hno (by rw [show K + (x + 1) - 1 = K + x by omega]; exact z) (by omega); rw [show K + (x + 1) - 1 - 1 = K + x - 1 by omega] at this; exact this) (nI x) f (by omega)
    refine br_f (nI_pos (by omega)) (qy_xc hE hE2 hF2 hF (by omega) (nm_e ?_))
    by_cases c1 : c ≤ qd_hd F E l + (2 + qd_ext F E x)
    · refine br_t (l1.mpr c1) (qy_152 (hsk (fun z => ?_)))
      obtain ⟨_, w, w0, w1, _⟩ := z
      rw [eK] at w1
      omega
    · refine br_f (fun z => c1 (l1.mp z)) ?_
      rw [l2 (by omega)]
      generalize hw : c - (qd_hd F E l + (2 + qd_ext F E x)) = w
      have ei : (nI (p + l) + nI K + nI x) * 64 + nI w = nI ((p + l + (K + x)) * 64 + w) := by
        rw [nI_add, nI_add, show (nI (p + l + K + x)) * (64 : Int32) = nI ((p + l + K + x) * 64) from pk_mul _ 64, nI_add]
        exact congrArg nI (by omega)
      refine ⟨by rw [ei]; exact vp_in_nI (by omega) (by decide), ?_⟩
      rw [ei, nI_clamp (by omega)]
      by_cases c2 : EN ((p + l + (K + x)) * 64 + w) = 0
      · refine br_t c2 (qy_152 (hsk (fun z => ?_)))
        obtain ⟨_, w', w0, w1, w2⟩ := z
        rw [eK] at w1
        have : w' = w := by omega
        rw [this] at w2
        exact w2 c2
      · refine br_f c2 ?_
        rw [show nI K + nI x = nI (K + x) from nI_add _ _]
        refine qy_ds (by omega) ?_
        by_cases c3 : qd_D S (p + l) (K + x) = 0
        · rw [c3]
          refine qy_152 (hsk (fun z => ?_))
          have := z.1.2.2
          omega
        · have hDl := qd_Dle S (p + l) (K + x)
          have hp := hm (K + x) ⟨⟨by omega, by omega, by omega⟩, w, by omega, by rw [eK]; omega, c2⟩ (by rw [show K + (x + 1) - 1 = K + x by omega] at hno; exact hno)
          rw [eK] at hp
          unfold wY_find_152
          exact br_f (nI_nle (by omega) (by omega)) hp
theorem qy_f72 {post : Int32 → SY → Prop} {J : Int32 → Int32 → Int32 → Int32 → Prop} {p c l : Nat} (hE : 2 ≤ E) (hE2 : E ≤ 255) (hF2 : 2 ≤ F) (hF : F ≤ 15) (hK3 : 3 ≤ K) (hK : K ≤ 6) (hn : n ≤ 32) (hc : c ≤ 64) (hl : p + l ≤ n)
    (hno : qd_none S n F E K (qd_en EN) p c l (n - p - l))
    (hJ : ∀ m0, m0 < K → qd_none S n F E K (qd_en EN) p c l m0 → ∀ fX, J (nI (l + 1)) (nI l) fX 0)
    (hm : ∀ m, qd_yok S n F E K (qd_en EN) p c l m → (∀ a b, qd_bef a b l m → ¬ qd_yok S n F E K (qd_en EN) p c a b) → post 1 (nI n, nI bl, nI ol, at0, nI l, nI (m - K), nI (qd_D S (p + l) m), nI F, nI E, nI K, nI T, S, B, O, R, EN)) :
    wY_find_72 post J (nI p) (nI c) (nI l) (nI (p + l)) (nI (qd_hd F E l)) (nI n) (nI bl) (nI ol) at0 (nI l) 0 0 (nI F) (nI E) (nI K) (nI T) S B O R EN := by
  unfold wY_find_72
  by_cases c1 : K ≤ n - p - l
  · have e : nI n - nI (p + l) - nI K = nI (n - p - l - K + 1) + (-1) := by
      rw [pk_sub hl, pk_sub (by omega), pk_m1]
      exact congrArg nI (by omega)
    exact nm_r e ⟨n + 2, qy_f86 hE hE2 hF2 hF hK3 hn hc hl hJ hm (n - p - l - K + 1) (by omega) (by rw [show K + (n - p - l - K + 1) - 1 = n - p - l by omega]; exact hno) 0 (n + 2) (by omega)⟩
  · refine nm_e ⟨1, br_t ?_ (nm_r (nI_1 l) (hJ _ (by omega) hno 0))⟩
    rw [pk_sub hl]
    exact pk_sneg (by omega) (by omega)
theorem qy_f2 {post : Int32 → SY → Prop} {p c : Nat} (hE : 2 ≤ E) (hE2 : E ≤ 255) (hF2 : 2 ≤ F) (hF : F ≤ 15) (hK3 : 3 ≤ K) (hK : K ≤ 6) (hT8 : T ≤ 8) (hn : n ≤ 32) (hc : c ≤ 64) (hp : p ≤ n)
    (hm : ∀ l m, qd_yok S n F E K (qd_en EN) p c l m → (∀ a b, qd_bef a b l m → ¬ qd_yok S n F E K (qd_en EN) p c a b) → post 1 (nI n, nI bl, nI ol, at0, nI l, nI (m - K), nI (qd_D S (p + l) m), nI F, nI E, nI K, nI T, S, B, O, R, EN))
    (hf : qd_yfin n F E T p c → (∀ a b, ¬ qd_yok S n F E K (qd_en EN) p c a b) → post 1 (nI n, nI bl, nI ol, at0, nI (n - p), 0, 0, nI F, nI E, nI K, nI T, S, B, O, R, EN))
    (h0 : ¬ qd_yfin n F E T p c → (∀ a b, ¬ qd_yok S n F E K (qd_en EN) p c a b) → ∀ fL fX fD, post 0 (nI n, nI bl, nI ol, at0, fL, fX, fD, nI F, nI E, nI K, nI T, S, B, O, R, EN)) :
    ∀ k l, l + k = n - p + 1 → qd_none S n F E K (qd_en EN) p c l (n - p - l) → (n - p < l → ¬ qd_yfin n F E T p c) → ∀ fL fX fD f, k < f →
      wY_find_2 post (nI p) (nI c) (nI n) (nI bl) (nI ol) at0 (nI F) (nI E) (nI K) (nI T) S B O R EN f (nI l) fL fX fD := by
  have en : nI n - nI p = nI (n - p) := pk_sub hp
  intro k
  induction k with
  | zero =>
    intro l hl hno hy fL fX fD f hf'
    obtain ⟨f, rfl⟩ : ∃ f', f = f' + 1 := ⟨f - 1, by omega⟩
    exact br_t (by rw [en]; exact nI_lt (by omega) (by omega)) (h0 (hy (by omega)) (qd_none_all hno (by omega)) fL fX fD)
  | succ k ih =>
    intro l hl hno hy fL fX fD f hf'
    obtain ⟨f, rfl⟩ : ∃ f', f = f' + 1 := ⟨f - 1, by omega⟩
    have h49 := qd_hd49 (F := F) (E := E) (l := l) hE hF2 (by omega)
    refine br_f (by rw [en]; exact nI_nlt (by omega) (by omega)) (nm_r (nI_add p l) (qy_xc hE hE2 hF2 hF (by omega) (nm_r (e' := nI (qd_hd F E l)) ?_ ?_)))
    · rw [show (1 : Int32) + nI (qd_ext F E l) = nI (1 + qd_ext F E l) from nI_add 1 _, nI_add]
      rfl
    · have w72 : (l = n - p → ¬ qd_yfin n F E T p c) → wY_find_72 post (wY_find_2 post (nI p) (nI c) (nI n) (nI bl) (nI ol) at0 (nI F) (nI E) (nI K) (nI T) S B O R EN f) (nI p) (nI c) (nI l) (nI (p + l)) (nI (qd_hd F E l)) (nI n) (nI bl) (nI ol) at0 (nI l) 0 0 (nI F) (nI E) (nI K) (nI T) S B O R EN := by
        intro hy2
        exact qy_f72 hE hE2 hF2 hF hK3 hK hn hc (by omega) hno (fun m0 h1 h2 fX => ih (l + 1) (by omega) (qd_none_next h2 h1 (by omega)) (fun z => hy2 (by omega)) (nI l) fX 0 f (by omega)) (hm l)
      by_cases c1 : p + l = n
      · refine br_t (by rw [c1]) ?_
        have el : n - p = l := by omega
        have hall := qd_none_all hno (by omega)
        by_cases c2 : qd_hd F E l = c
        · refine br_t (by rw [c2]) ?_
          by_cases c3 : p = 0
          · have t := hf ⟨Or.inl c3, by rw [el]; exact c2⟩ hall
            rw [el] at t
            exact br_t (by rw [c3]; rfl) t
          · refine br_f (nI_ne0 (by omega) (by omega)) ?_
            by_cases c4 : l < T
            · exact br_t (nI_lt c4 (by omega)) (w72 (fun _ z => by have := z.1; unfold qd_fin at this; omega))
            · have t := hf ⟨Or.inr (by omega), by rw [el]; exact c2⟩ hall
              rw [el] at t
              exact br_f (nI_nlt (by omega) (by omega)) t
        · exact br_f (fun z => c2 ((nI_eq (by omega) (by omega)).mp z)) (w72 (fun _ z => c2 (by have := z.2; rw [el] at this; exact this)))
      · exact br_f (fun z => c1 ((nI_eq (by omega) (by omega)).mp z)) (w72 (fun z => absurd z (by omega)))
theorem qy_f {post : Int32 → SY → Prop} {p c : Nat} (hE : 2 ≤ E) (hE2 : E ≤ 255) (hF2 : 2 ≤ F) (hF : F ≤ 15) (hK3 : 3 ≤ K) (hK : K ≤ 6) (hT8 : T ≤ 8) (hn : n ≤ 32) (hc : c ≤ 64) (hp : p ≤ n)
    (hm : ∀ l m, qd_yok S n F E K (qd_en EN) p c l m → (∀ a b, qd_bef a b l m → ¬ qd_yok S n F E K (qd_en EN) p c a b) → post 1 (nI n, nI bl, nI ol, at0, nI l, nI (m - K), nI (qd_D S (p + l) m), nI F, nI E, nI K, nI T, S, B, O, R, EN))
    (hf : qd_yfin n F E T p c → (∀ a b, ¬ qd_yok S n F E K (qd_en EN) p c a b) → post 1 (nI n, nI bl, nI ol, at0, nI (n - p), 0, 0, nI F, nI E, nI K, nI T, S, B, O, R, EN))
    (h0 : ¬ qd_yfin n F E T p c → (∀ a b, ¬ qd_yok S n F E K (qd_en EN) p c a b) → ∀ fL fX fD, post 0 (nI n, nI bl, nI ol, at0, fL, fX, fD, nI F, nI E, nI K, nI T, S, B, O, R, EN)) : wpY_find post (nI n, nI bl, nI ol, at0, fL, fX, fD, nI F, nI E, nI K, nI T, S, B, O, R, EN) (nI p) (nI c) :=
  ⟨n - p + 2, qy_f2 hE hE2 hF2 hF hK3 hK hT8 hn hc hp hm hf h0 (n - p + 1) 0 (by omega) (qd_none_0 (by omega)) (fun z => absurd z (by omega)) fL fX fD (n - p + 2) (by omega)⟩
theorem qy_nb0 : vp_nar .boolean 0 = 0 := by rfl
theorem qy_nb1 : vp_nar .boolean 1 = 1 := by rfl
theorem qy_s10 {post : Int32 → SY → Prop} {J : Int32 → Int32 → Int32 → Int32 → Int32 → Int32 → Int32 → Int32 → Int32 → Int32 → Int32 → Int32 → (Nat → Int32) → (Nat → Int32) → (Nat → Int32) → (Nat → Int32) → (Nat → Int32) → Prop}
    {c : Nat} (hE : 2 ≤ E) (hE2 : E ≤ 255) (hF2 : 2 ≤ F) (hF : F ≤ 15) (hK3 : 3 ≤ K) (hK : K ≤ 6) (hT8 : T ≤ 8) (hn : n ≤ 32) (hc1 : 1 ≤ c) (hc : c < 64)
    (hJ : ∀ EN fL fX fD, qd_Loc S n F E K T (qd_en EN) c → ¬ qd_en EN 0 c → (∀ w, 1 ≤ w → w < c → ¬ qd_en EN 0 w) → J (nI (c + 1)) (nI n) (nI bl) (nI ol) at0 fL fX fD (nI F) (nI E) (nI K) (nI T) S B O R EN)
    (hpost : ∀ EN fL fX fD, qd_Loc S n F E K T (qd_en EN) c → qd_en EN 0 c → (∀ w, 1 ≤ w → w < c → ¬ qd_en EN 0 w) → post (nI c) (nI n, nI bl, nI ol, at0, fL, fX, fD, nI F, nI E, nI K, nI T, S, B, O, R, EN)) :
    ∀ k p EN fL fX fD, p + k = n + 1 → qd_col S n F E K T EN c p → (∀ w, 1 ≤ w → w < c → ¬ qd_en EN 0 w) → ∀ f, k < f → wY_shortest_10 post J (nI c) f (nI p) (nI n) (nI bl) (nI ol) at0 fL fX fD (nI F) (nI E) (nI K) (nI T) S B O R EN := by
  intro k
  induction k with
  | zero =>
    intro p EN fL fX fD hp hcol hmin f hf
    obtain ⟨f, rfl⟩ : ∃ f', f = f' + 1 := ⟨f - 1, by omega⟩
    have e : p = n + 1 := by omega
    subst e
    have hL := qd_col_next hc1 hcol
    have e0 : qd_en EN 0 c ↔ ¬ EN c = 0 := by unfold qd_en; rw [Nat.zero_mul, Nat.zero_add]
    refine br_t (nI_lt (by omega) (by omega)) ⟨vp_in_nI (by omega) (by decide), ?_⟩
    rw [qx_g (a := EN)]
    by_cases c0 : EN c = 0
    · exact br_t c0 (nm_r (nI_1 c) (hJ EN fL fX fD hL (fun z => (e0.mp z) c0) hmin))
    · exact br_f c0 (hpost EN fL fX fD hL (e0.mpr c0) hmin)
  | succ k ih =>
    intro p EN fL fX fD hp hcol hmin f hf
    obtain ⟨f, rfl⟩ : ∃ f', f = f' + 1 := ⟨f - 1, by omega⟩
    have ei : nI p * 64 + nI c = nI (p * 64 + c) := by
      rw [show nI p * (64 : Int32) = nI (p * 64) from pk_mul _ 64, nI_add]
    have hv : vp_in (nI p * 64 + nI c) 2112 := by rw [ei]; exact vp_in_nI (by omega) (by decide)
    have eu : ∀ v : Int32, upd EN (nI p * 64 + nI c).toNatClampNeg v = upd EN (p * 64 + c) v := fun v => by rw [ei, nI_clamp (by omega)]
    have hmin' : ∀ v : Int32, ∀ w, 1 ≤ w → w < c → ¬ qd_en (upd EN (p * 64 + c) v) 0 w := by
      intro v w h1 h2
      have := hmin w h1 h2
      unfold qd_en at this ⊢
      rw [pk_un (by omega)]
      exact this
    have step : ∀ v : Int32, ∀ fL fX fD, (¬ v = 0 ↔ qd_rhs S n F E K T (qd_en EN) p c) → wY_shortest_10 post J (nI c) f (nI (p + 1)) (nI n) (nI bl) (nI ol) at0 fL fX fD (nI F) (nI E) (nI K) (nI T) S B O R (upd EN (p * 64 + c) v) :=
      fun v fL fX fD hv => ih (p + 1) _ fL fX fD (by omega) (qd_col_s hn hc1 hc (by omega) hcol hv) (hmin' v) f (by omega)
    refine br_f (nI_nlt (by omega) (by omega)) (qy_f hE hE2 hF2 hF hK3 hK hT8 hn (by omega) (by omega) (fun l m hy hb => ?_) (fun hy hb => ?_) (fun hy hb fL fX fD => ?_))
    · exact ⟨hv, nm_r (by rw [eu, qy_nb1]) (nm_r (nI_1 p) (step 1 _ _ _ ⟨fun _ => Or.inr ⟨l, m, hy⟩, fun _ => by decide⟩))⟩
    · exact ⟨hv, nm_r (by rw [eu, qy_nb1]) (nm_r (nI_1 p) (step 1 _ _ _ ⟨fun _ => Or.inl hy, fun _ => by decide⟩))⟩
    · exact ⟨hv, nm_r (by rw [eu, qy_nb0]) (nm_r (nI_1 p) (step 0 _ _ _ ⟨fun z => absurd rfl z, fun z => (z.elim hy (fun ⟨l, m, y⟩ => hb l m y)).elim⟩))⟩
theorem qy_s2 {post : Int32 → SY → Prop} (hE : 2 ≤ E) (hE2 : E ≤ 255) (hF2 : 2 ≤ F) (hF : F ≤ 15) (hK3 : 3 ≤ K) (hK : K ≤ 6) (hT8 : T ≤ 8) (hn : n ≤ 32)
    (h : ∀ c EN fL fX fD, 1 ≤ c → c ≤ 49 → qd_Loc S n F E K T (qd_en EN) c → qd_en EN 0 c → (∀ w, 1 ≤ w → w < c → ¬ qd_en EN 0 w) → post (nI c) (nI n, nI bl, nI ol, at0, fL, fX, fD, nI F, nI E, nI K, nI T, S, B, O, R, EN)) :
    ∀ k c EN fL fX fD, c + k = qd_hd F E n → 1 ≤ c → qd_Loc S n F E K T (qd_en EN) (c - 1) → (∀ w, 1 ≤ w → w < c → ¬ qd_en EN 0 w) → ∀ f, k < f → wY_shortest_2 post f (nI c) (nI n) (nI bl) (nI ol) at0 fL fX fD (nI F) (nI E) (nI K) (nI T) S B O R EN := by
  have h49 := qd_hd49 (F := F) (E := E) (l := n) hE hF2 hn
  intro k
  induction k with
  | zero =>
    intro c EN fL fX fD hc h1 hL hmin f hf
    obtain ⟨f, rfl⟩ : ∃ f', f = f' + 1 := ⟨f - 1, by omega⟩
    refine br_f (nI_ge (b := 64) (by omega) (by decide)) ⟨n + 2, qy_s10 hE hE2 hF2 hF hK3 hK hT8 hn h1 (by omega) (fun EN fL fX fD g1 g2 g3 => ?_) (fun EN fL fX fD g1 g2 g3 => h c EN fL fX fD h1 (by omega) g1 g2 g3) (n + 1) 0 EN fL fX fD (by omega) (qd_col_0 hL) hmin (n + 2) (by omega)⟩
    exact absurd (qd_Loc_end g1 (by omega) h1) g2
  | succ k ih =>
    intro c EN fL fX fD hc h1 hL hmin f hf
    obtain ⟨f, rfl⟩ : ∃ f', f = f' + 1 := ⟨f - 1, by omega⟩
    refine br_f (nI_ge (b := 64) (by omega) (by decide)) ⟨n + 2, qy_s10 hE hE2 hF2 hF hK3 hK hT8 hn h1 (by omega) (fun EN fL fX fD g1 g2 g3 => ?_) (fun EN fL fX fD g1 g2 g3 => h c EN fL fX fD h1 (by omega) g1 g2 g3) (n + 1) 0 EN fL fX fD (by omega) (qd_col_0 hL) hmin (n + 2) (by omega)⟩
    refine ih (c + 1) EN fL fX fD (by omega) (by omega) g1 (fun w w1 w2 => ?_) f (by omega)
    by_cases e : w = c
    · rw [e]; exact g2
    · exact g3 w w1 (by omega)
theorem qy_s {post : Int32 → SY → Prop} (hE : 2 ≤ E) (hE2 : E ≤ 255) (hF2 : 2 ≤ F) (hF : F ≤ 15) (hK3 : 3 ≤ K) (hK : K ≤ 6) (hT8 : T ≤ 8) (hn : n ≤ 32)
    (h : ∀ c EN fL fX fD, 1 ≤ c → c ≤ 49 → qd_Loc S n F E K T (qd_en EN) c → qd_en EN 0 c → (∀ w, 1 ≤ w → w < c → ¬ qd_en EN 0 w) → post (nI c) (nI n, nI bl, nI ol, at0, fL, fX, fD, nI F, nI E, nI K, nI T, S, B, O, R, EN)) : wpY_shortest post (nI n, nI bl, nI ol, at0, fL, fX, fD, nI F, nI E, nI K, nI T, S, B, O, R, EN) := by
  have hp := qd_hd_pos F E n
  exact ⟨qd_hd F E n, qy_s2 hE hE2 hF2 hF hK3 hK hT8 hn h (qd_hd F E n - 1) 1 EN fL fX fD (by omega) (by omega) qd_Loc_0 (fun w w1 w2 => absurd w2 (by omega)) (qd_hd F E n) (by omega)⟩
end
