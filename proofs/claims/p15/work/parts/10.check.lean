/-! the checks of one block: surplus, decode, encode, surplus again, decode again -/
section
variable {F E K T n bl ol : Nat} {rl cu : Int32} {S B O R PC PL PM PD : Nat → Int32}
variable {post : Int32 → Prop} {L : Nat} {xs : Nat → Int32} {J85 : Int32 → qs_J9} {J304 : Int32 → Int32 → qs_J9} {x1 x3 x4 x5 x7 : Int32} {v kc ks : Nat}
theorem qc_989 (hn : n ≤ 32) (hO : ∀ j, j < n → O j = S j) (hJ : J304 x7 (nI (v + 1)) (nI F) (nI E) (nI K) (nI T) (nI n) (nI bl) (nI n) rl cu S B O R PC PL PM PD) :
    ∀ k i, i + k = n → ∀ f, k < f → wL_law_989 post L xs J85 J304 x1 x3 x4 x5 x7 (nI n) (nI v) kc ks (nI F) (nI E) (nI K) (nI T) (nI n) (nI bl) (nI n) rl cu S B O R PC PL PM PD f (nI i) := by
  intro k
  induction k with
  | zero =>
    intro i hi f hf
    obtain ⟨f, rfl⟩ : ∃ f', f = f' + 1 := ⟨f - 1, by omega⟩
    exact br_c (fun _ => nm_r (nI_1 v) hJ) (fun _ => br_t (nI_le (by omega) (by omega)) (nm_r (nI_1 v) hJ))
  | succ k ih =>
    intro i hi f hf
    obtain ⟨f, rfl⟩ : ∃ f', f = f' + 1 := ⟨f - 1, by omega⟩
    exact br_f (nI_ge (b := 32) (by omega) (by decide)) (br_f (nI_ge (by omega) (by omega)) (qs_ca2 hn (by omega) (qs_ca0 hn (by omega) (br_t (hO i (by omega)) (nm_r (nI_1 i) (ih (i + 1) (by omega) f (by omega)))))))
theorem qc_917 (hE : 2 ≤ E) (hE2 : E ≤ 255) (hF2 : 2 ≤ F) (hF : F ≤ 15) (hK3 : 3 ≤ K) (hK : K ≤ 6) (hT8 : T ≤ 8) (hs : qs_ok n bl ol S B O R) (h1 : 1 ≤ bl) (h49 : bl ≤ 49)
    (hr : ∀ R, ∃ R', qr_read B bl F E K T (bl + 1) 0 0 0 R = (0, n, R') ∧ ∀ j, j < n → R' j = S j)
    (hp : ∀ pc pl pm pd, (∀ p, p ≤ n → qd_PL S n F E K T pc pl pm pd p) → pc 0 = bl)
    (hJ : qs_J F E K T (J304 x7 (nI (v + 1)))) :
    wL_law_917 post L xs J85 J304 x1 x3 x4 x5 x7 (nI v) (nI bl) kc ks (nI F) (nI E) (nI K) (nI T) (nI n) (nI bl) (nI ol) rl cu S B O R PC PL PM PD := by
  obtain ⟨s1, s2, s3, s4, s5, s6, s7⟩ := hs
  obtain ⟨R1, hW1, e1⟩ := hr R
  obtain ⟨R2, hW2, e2⟩ := hr R1
  have b1 := qr_read_b (bl := bl) (F := F) (E := E) (K := K) (T := T) s5 (bl + 1) 0 0 0 R (by omega) s7
  rw [hW1] at b1
  have b2 := qr_read_b (bl := bl) (F := F) (E := E) (K := K) (T := T) s5 (bl + 1) 0 0 0 R1 (by omega) b1.2.2
  rw [hW2] at b2
  unfold wL_law_917
  refine br_f (nI_nlt (b := 1) h1 (by omega)) (br_f (nI_nlt (a := 49) h49 (by decide)) (qs_l1 (br_t rfl (qx_su s5 s7 hE hE2 hF2 hF hK3 hK hT8 s1 s2 hW1 (fun _ cu PC PL PM PD pc pl pm pd ht => ?_) (fun z => absurd ⟨rfl, rfl, e1⟩ z)))))
  have e := hp pc pl pm pd (fun p hp => (ht p (Nat.zero_le _) hp).2.2.2.2)
  refine br_t (by rw [e, pk_sub (Nat.le_refl _), Nat.sub_self]; rfl) (qx_de s5 b1.2.2 s2 hE2 hF hK hT8 hW2 (fun _ cu => ?_) (fun z => absurd rfl z))
  refine qs_l0 (br_t rfl (qs_l2 (br_t rfl ⟨n + 1, ?_⟩)))
  have hO : ∀ j, j < n → qd_fill O 0 R2 n j = S j := by
    intro j hj
    have := qd_fill_in (a := O) (b := 0) (g := R2) (k := n) hj
    rw [Nat.zero_add] at this
    rw [this]
    exact e2 j hj
  exact qc_989 s1 hO (hJ n bl n _ _ S B _ R2 _ _ _ _ ⟨s1, s2, s1, s4, s5, qd_by_fill s6 (fun i _ => b2.2.2 i), b2.2.2⟩) n 0 (by omega) (n + 1) (by omega)
theorem qc_896 {x12 x14 : Int32} (hE : 2 ≤ E) (hE2 : E ≤ 255) (hF2 : 2 ≤ F) (hF : F ≤ 15) (hK3 : 3 ≤ K) (hK : K ≤ 6) (hT8 : T ≤ 8) (hs : qs_ok n bl ol S B O R)
    (hm : ¬ x14 = 0 → ∀ pc pl pm pd, (∀ p, p ≤ n → qd_PL S n F E K T pc pl pm pd p) → nI (pc 0) ≤ x12)
    (hJ : qs_J F E K T (J304 x7 (nI (v + 1)))) :
    wL_law_896 post L xs J85 J304 x1 x3 x4 x5 x7 (nI v) x12 x14 kc ks (nI F) (nI E) (nI K) (nI T) (nI n) (nI bl) (nI ol) rl cu S B O R PC PL PM PD := by
  obtain ⟨s1, s2, s3, s4, s5, s6, s7⟩ := hs
  unfold wL_law_896
  refine qx_en hE hE2 hF2 hF hK3 hK hT8 s1 (fun PC PL PM PD pc pl pm pd ht hc => ?_)
  have hP : ∀ p, p ≤ n → qd_PL S n F E K T pc pl pm pd p := fun p hp => (ht p (Nat.zero_le _) hp).2.2.2.2
  have q1 := (hP 0 (Nat.zero_le _)).2.1
  obtain ⟨o1, o2, _⟩ := qw_ok hP s1 (by omega) s4 (by omega) hE2 hF 33 0 0 B (Nat.zero_le _) (by omega) (by omega)
  rw [Nat.zero_add] at o1
  have hr : ∀ R, ∃ R', qr_read (qw S F E K pl pm pd 33 0 0 B).2 (pc 0) F E K T (pc 0 + 1) 0 0 0 R = (0, n, R') ∧ ∀ j, j < n → R' j = S j := by
    intro R
    have t := qt_trip hP s1 (by omega) s4 (by omega) hE2 hF 33 0 0 B (pc 0 + 1) 0 R (Nat.zero_le _) (by omega) (by omega) (by omega) (fun z => absurd z (by omega)) (fun j hj => absurd hj (by omega))
    rw [Nat.zero_add] at t
    exact t
  have hp : ∀ pc' pl' pm' pd', (∀ p, p ≤ n → qd_PL S n F E K T pc' pl' pm' pd' p) → pc' 0 = pc 0 := by
    intro pc' pl' pm' pd' h'
    have a := qt_uniq hP h' (by omega) n 0 (by omega)
    have b := qt_uniq h' hP (by omega) n 0 (by omega)
    omega
  rw [o1]
  have key : wL_law_917 post L xs J85 J304 x1 x3 x4 x5 x7 (nI v) (nI (pc 0)) kc ks (nI F) (nI E) (nI K) (nI T) (nI n) (nI (pc 0)) (nI ol) rl cu S ((qw S F E K pl pm pd 33 0 0 B).2) O R PC PL PM PD :=
    qc_917 hE hE2 hF2 hF hK3 hK hT8 ⟨s1, by omega, s3, s4, o2 s5, s6, s7⟩ q1 hc hr hp hJ
  exact br_c (fun _ => key) (fun z => br_t (hm z pc pl pm pd hP) key)
theorem qc_854a {x12 : Int32} (hs : qs_ok n bl ol S B O R) (h0 : wL_law_896 post L xs J85 J304 x1 x3 x4 x5 x7 (nI v) x12 0 kc ks (nI F) (nI E) (nI K) (nI T) (nI n) (nI bl) (nI ol) rl cu S B O R PC PL PM PD) :
    ∀ k i, i + k = n → ∀ f, k < f → wL_law_854 post L xs J85 J304 x1 x3 x4 x5 x7 (nI n) (nI v) x12 kc ks (nI F) (nI E) (nI K) (nI T) (nI n) (nI bl) (nI ol) rl cu S B O R PC PL PM PD f 0 (nI i) := by
  obtain ⟨s1, s2, s3, s4, s5, s6, s7⟩ := hs
  intro k
  induction k with
  | zero =>
    intro i hi f hf
    obtain ⟨f, rfl⟩ : ∃ f', f = f' + 1 := ⟨f - 1, by omega⟩
    exact br_c (fun _ => h0) (fun _ => br_t (nI_le (by omega) (by omega)) h0)
  | succ k ih =>
    intro i hi f hf
    obtain ⟨f, rfl⟩ : ∃ f', f = f' + 1 := ⟨f - 1, by omega⟩
    have key := ih (i + 1) (by omega) f (by omega)
    exact br_f (nI_ge (b := 32) (by omega) (by decide)) (br_f (nI_ge (by omega) (by omega)) (qs_ca s1 s2 s3 (fun r => qs_ca s1 s2 s3 (fun r' => br_c (fun _ => nm_r (nI_1 i) key) (fun _ => nm_r (nI_1 i) key)))))
theorem qc_854b {x12 : Int32} (hs : qs_ok n bl n S B O R) (h0 : wL_law_896 post L xs J85 J304 x1 x3 x4 x5 x7 (nI v) x12 0 kc ks (nI F) (nI E) (nI K) (nI T) (nI n) (nI bl) (nI n) rl cu S B O R PC PL PM PD)
    (h1 : (∀ j, j < n → O j = S j) → wL_law_896 post L xs J85 J304 x1 x3 x4 x5 x7 (nI v) x12 1 kc ks (nI F) (nI E) (nI K) (nI T) (nI n) (nI bl) (nI n) rl cu S B O R PC PL PM PD) :
    ∀ k i, i + k = n → (∀ j, j < i → O j = S j) → ∀ f, k < f → wL_law_854 post L xs J85 J304 x1 x3 x4 x5 x7 (nI n) (nI v) x12 kc ks (nI F) (nI E) (nI K) (nI T) (nI n) (nI bl) (nI n) rl cu S B O R PC PL PM PD f 1 (nI i) := by
  have hs' := hs
  obtain ⟨s1, s2, s3, s4, s5, s6, s7⟩ := hs
  intro k
  induction k with
  | zero =>
    intro i hi hr f hf
    obtain ⟨f, rfl⟩ : ∃ f', f = f' + 1 := ⟨f - 1, by omega⟩
    have h1 := h1 (fun j hj => hr j (by omega))
    exact br_c (fun _ => h1) (fun _ => br_t (nI_le (by omega) (by omega)) h1)
  | succ k ih =>
    intro i hi hr f hf
    obtain ⟨f, rfl⟩ : ∃ f', f = f' + 1 := ⟨f - 1, by omega⟩
    refine br_f (nI_ge (b := 32) (by omega) (by decide)) (br_f (nI_ge (by omega) (by omega)) (qs_ca2 s1 (by omega) (qs_ca0 s1 (by omega) (br_c (fun e => nm_r (nI_1 i) ?_) (fun _ => nm_r (nI_1 i) ?_)))))
    · exact ih (i + 1) (by omega) (lt_s hr e) f (by omega)
    · exact qc_854a hs' h0 k (i + 1) (by omega) f (by omega)
theorem qc_805 (hE : 2 ≤ E) (hE2 : E ≤ 255) (hF2 : 2 ≤ F) (hF : F ≤ 15) (hK3 : 3 ≤ K) (hK : K ≤ 6) (hT8 : T ≤ 8) (hs : qs_ok n bl ol S B O R)
    (hJ : qs_J F E K T (J304 x7 (nI (v + 1)))) :
    wL_law_805 post L xs J85 J304 x1 x3 x4 x5 x7 (nI v) kc ks (nI F) (nI E) (nI K) (nI T) (nI n) (nI bl) (nI ol) rl cu S B O R PC PL PM PD := by
  obtain ⟨s1, s2, s3, s4, s5, s6, s7⟩ := hs
  have hw := qr_read_b (bl := bl) (F := F) (E := E) (K := K) (T := T) s5 (bl + 1) 0 0 0 R (by omega) s7
  generalize hW : qr_read B bl F E K T (bl + 1) 0 0 0 R = W at hw
  obtain ⟨c, len, R'⟩ := W
  obtain ⟨w1, w2, w3⟩ := hw
  dsimp only at w1 w2 w3
  unfold wL_law_805
  refine qs_l1 (qx_de s5 s7 s2 hE2 hF hK hT8 hW (fun c0 cu => qs_l0 ?_) (fun c0 cu => qs_l0 ?_))
  · have hO : qd_by (qd_fill O 0 R' len) := qd_by_fill s6 (fun i _ => w3 i)
    refine br_f (nI_pos (by omega)) (qs_l2 ?_)
    by_cases c1 : len = n
    · subst c1
      refine br_t rfl ⟨len + 1, qc_854b ⟨s1, s2, s1, s4, s5, hO, w3⟩ (qc_896 hE hE2 hF2 hF hK3 hK hT8 ⟨s1, s2, s1, s4, s5, hO, w3⟩ (fun z => absurd rfl z) hJ) (fun he => qc_896 hE hE2 hF2 hF hK3 hK hT8 ⟨s1, s2, s1, s4, s5, hO, w3⟩ (fun _ pc pl pm pd hP => ?_) hJ) len 0 (by omega) lt_0 (len + 1) (by omega)⟩
      rw [c0] at hW
      have hR : ∀ j, j < len → R' j = S j := by
        intro j hj
        have := qd_fill_in (a := O) (b := 0) (g := R') (k := len) hj
        rw [Nat.zero_add] at this
        rw [← this]
        exact he j hj
      have hmin := (qp_min hP (by omega) s5 s2 _ _ _ _ _ _ hW hR (fun _ => rfl)).2
      exact nI_le (by omega) (by omega)
    · exact br_f (fun z => c1 ((nI_eq (by omega) (by omega)).mp z)) ⟨n + 1, qc_854a ⟨s1, s2, w2, s4, s5, hO, w3⟩ (qc_896 hE hE2 hF2 hF hK3 hK hT8 ⟨s1, s2, w2, s4, s5, hO, w3⟩ (fun z => absurd rfl z) hJ) n 0 (by omega) (n + 1) (by omega)⟩
  · exact br_t (qr_neg c0 w1) ⟨n + 1, qc_854a ⟨s1, s2, s3, s4, s5, s6, w3⟩ (qc_896 hE hE2 hF2 hF hK3 hK hT8 ⟨s1, s2, s3, s4, s5, s6, w3⟩ (fun z => absurd rfl z) hJ) n 0 (by omega) (n + 1) (by omega)⟩
theorem qc_784 (hE : 2 ≤ E) (hE2 : E ≤ 255) (hF2 : 2 ≤ F) (hF : F ≤ 15) (hK3 : 3 ≤ K) (hK : K ≤ 6) (hT8 : T ≤ 8) (hs : qs_ok n bl ol S B O R)
    (hJ : qs_J F E K T (J304 x7 (nI (v + 1)))) :
    wL_law_784 post L xs J85 J304 x1 x3 x4 x5 x7 (nI v) kc ks (nI F) (nI E) (nI K) (nI T) (nI n) (nI bl) (nI ol) rl cu S B O R PC PL PM PD := by
  obtain ⟨s1, s2, s3, s4, s5, s6, s7⟩ := hs
  have hw := qr_read_b (bl := bl) (F := F) (E := E) (K := K) (T := T) s5 (bl + 1) 0 0 0 R (by omega) s7
  generalize hW : qr_read B bl F E K T (bl + 1) 0 0 0 R = W at hw
  obtain ⟨c, len, R'⟩ := W
  obtain ⟨w1, w2, w3⟩ := hw
  dsimp only at w1 w2 w3
  unfold wL_law_784
  refine qx_su s5 s7 hE hE2 hF2 hF hK3 hK hT8 s1 s2 hW (fun q cu PC PL PM PD pc pl pm pd ht => ?_) (fun q cu => br_t rfl (qc_805 hE hE2 hF2 hF hK3 hK hT8 ⟨s1, s2, s3, s4, s5, s6, w3⟩ hJ))
  obtain ⟨q1, q2, q3⟩ := q
  subst q1 q2
  have hmin := (qp_min (fun p hp => (ht p (Nat.zero_le _) hp).2.2.2.2) (by omega) s5 s2 _ _ _ _ _ _ hW q3 (fun _ => rfl)).2
  have key : wL_law_805 post L xs J85 J304 x1 x3 x4 x5 x7 (nI v) kc ks (nI F) (nI E) (nI K) (nI T) (nI len) (nI bl) (nI ol) (nI len) cu S B O R' PC PL PM PD := qc_805 hE hE2 hF2 hF hK3 hK hT8 ⟨s1, s2, s3, s4, s5, s6, w3⟩ hJ
  exact br_c (fun _ => key) (fun _ => br_t (by rw [pk_sub (by omega)]; exact nI_pos' (by omega)) key)
end
