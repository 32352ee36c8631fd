/-! the law's feeding of a block by hand: it ends, and the state stays well formed -/
section
variable {F E K T n bl ol : Nat} {rl cu : Int32} {S B O R PC PL PM PD : Nat → Int32}
variable {post : Int32 → Prop} {L : Nat} {xs : Nat → Int32} {J85 : Int32 → qs_J9} {J304 : Int32 → Int32 → qs_J9} {J346 : Int32 → Int32 → Int32 → qs_J9} {J367 : Int32 → Int32 → Int32 → Prop}
variable {x1 x3 x4 x5 x7 x10 x11 x12 x13 x14 x15 x16 x17 : Int32} {v kc ks : Nat}
theorem qf_660 (hE : 2 ≤ E) (hE2 : E ≤ 255) (hJ : ∀ (bl : Nat) (B : Nat → Int32), bl ≤ 64 → qd_by B → J346 (x13 + x15) (x13 + x15) x14 (nI F) (nI E) (nI K) (nI T) (nI n) (nI bl) (nI ol) rl cu S B O R PC PL PM PD) :
    ∀ (f : Nat) (x : Int32) (bl : Nat) (B : Nat → Int32), bl ≤ 64 → qd_by B → ((x < 0 ∧ 0 < f) ∨ ∃ y, y ≤ 64 ∧ x = nI y ∧ y + 1 < f) →
      wL_law_660 post L xs J85 J304 J346 x1 (nI E) x4 x5 x7 x10 x11 x13 x14 x15 kc ks f x (nI F) (nI E) (nI K) (nI T) (nI n) (nI bl) (nI ol) rl cu S B O R PC PL PM PD := by
  intro f
  induction f with
  | zero =>
    intro x bl B hb hB h
    rcases h with ⟨_, h⟩ | ⟨y, _, _, h⟩
    · omega
    · omega
  | succ f ih =>
    intro x bl B hb hB h
    rcases h with ⟨h, _⟩ | ⟨y, hy, rfl, h⟩
    · exact br_t h (nm_e (hJ bl B hb hB))
    · refine br_f (nI_pos (by omega)) (qs_least (fun r => qs_fd hb hB (fun r' bl B hb hB => nm_e (ih _ bl B hb hB ?_))))
      by_cases c : y < E
      · exact Or.inl ⟨pk_sneg (by omega) c, by omega⟩
      · exact Or.inr ⟨y - E, by omega, pk_sub (by omega), by omega⟩
theorem qf_604 {q : Nat} (hs1 : n ≤ 32) (hs3 : ol ≤ 32) (hq : q ≤ 32)
    (h660 : x14 = 0 → ∀ (bl : Nat) (B : Nat → Int32), bl ≤ 64 → qd_by B → ∃ fu, wL_law_660 post L xs J85 J304 J346 x1 x3 x4 x5 x7 x10 x11 (nI q) x14 x15 kc ks fu (x15 - x4 - x1) (nI F) (nI E) (nI K) (nI T) (nI n) (nI bl) (nI ol) rl cu S B O R PC PL PM PD)
    (hD : ¬ x14 = 0 → ∀ (bl : Nat) (B : Nat → Int32), bl ≤ 64 → qd_by B → J346 x12 (nI q) x14 (nI F) (nI E) (nI K) (nI T) (nI n) (nI bl) (nI ol) rl cu S B O R PC PL PM PD) :
    ∀ (k i : Nat) (bl : Nat) (B : Nat → Int32), i + k = q → bl ≤ 64 → qd_by B → ∀ f, k < f →
      wL_law_604 post L xs J85 J304 J346 x1 x3 x4 x5 x7 x10 x11 x12 (nI q) x14 x15 x16 kc ks f (nI i) (nI F) (nI E) (nI K) (nI T) (nI n) (nI bl) (nI ol) rl cu S B O R PC PL PM PD := by
  intro k
  induction k with
  | zero =>
    intro i bl B hi hb hB f hf
    obtain ⟨f, rfl⟩ : ∃ f', f = f' + 1 := ⟨f - 1, by omega⟩
    exact br_t (nI_le (by omega) (by omega)) (br_c (fun z => qs_fd hb hB (fun r bl B hb hB => qs_fd hb hB (fun r' bl B hb hB => nm_e (h660 z bl B hb hB)))) (fun z => hD z bl B hb hB))
  | succ k ih =>
    intro i bl B hi hb hB f hf
    obtain ⟨f, rfl⟩ : ∃ f', f = f' + 1 := ⟨f - 1, by omega⟩
    exact br_f (nI_ge (by omega) (by omega)) (qs_ca hs1 hb hs3 (fun r => qs_fd hb hB (fun r' bl B hb hB => nm_r (nI_1 i) (ih (i + 1) bl B (by omega) hb hB f (by omega)))))
theorem qf_574 (hE : 2 ≤ E) (hE2 : E ≤ 255) (hJ : ∀ (bl : Nat) (B : Nat → Int32), bl ≤ 64 → qd_by B → ∃ fu, wL_law_604 post L xs J85 J304 J346 x1 (nI E) x4 x5 x7 x10 x11 x12 x13 x14 x15 x16 kc ks fu x12 (nI F) (nI E) (nI K) (nI T) (nI n) (nI bl) (nI ol) rl cu S B O R PC PL PM PD) :
    ∀ (f : Nat) (x : Int32) (bl : Nat) (B : Nat → Int32), bl ≤ 64 → qd_by B → ((x < 0 ∧ 0 < f) ∨ ∃ y, y ≤ 64 ∧ x = nI y ∧ y + 1 < f) →
      wL_law_574 post L xs J85 J304 J346 x1 (nI E) x4 x5 x7 x10 x11 x12 x13 x14 x15 x16 kc ks f x (nI F) (nI E) (nI K) (nI T) (nI n) (nI bl) (nI ol) rl cu S B O R PC PL PM PD := by
  intro f
  induction f with
  | zero =>
    intro x bl B hb hB h
    rcases h with ⟨_, h⟩ | ⟨y, _, _, h⟩
    · omega
    · omega
  | succ f ih =>
    intro x bl B hb hB h
    rcases h with ⟨h, _⟩ | ⟨y, hy, rfl, h⟩
    · exact br_t h (hJ bl B hb hB)
    · refine br_f (nI_pos (by omega)) (qs_least (fun r => qs_fd hb hB (fun r' bl B hb hB => nm_e (ih _ bl B hb hB ?_))))
      by_cases c : y < E
      · exact Or.inl ⟨pk_sneg (by omega) c, by omega⟩
      · exact Or.inr ⟨y - E, by omega, pk_sub (by omega), by omega⟩
theorem qf_sub {a b f : Nat} (ha : a ≤ 64) (hb : b ≤ 64) (hf : 70 ≤ f) : (nI a - nI b < 0 ∧ 0 < f) ∨ ∃ y, y ≤ 64 ∧ nI a - nI b = nI y ∧ y + 1 < f := by
  by_cases c : a < b
  · exact Or.inl ⟨pk_sneg (by omega) c, by omega⟩
  · exact Or.inr ⟨a - b, by omega, pk_sub (by omega), by omega⟩
theorem qf_527 {p q : Nat} (hE : 2 ≤ E) (hE2 : E ≤ 255) (hF : F ≤ 15) (hs1 : n ≤ 32) (hb : bl ≤ 64) (hs3 : ol ≤ 32) (hB : qd_by B) (hp : p ≤ q) (hq : q ≤ 32)
    (hN : x14 = 0 → ∃ m, x15 = nI m ∧ K ≤ m ∧ m ≤ 32 ∧ ∀ (bl : Nat) (B : Nat → Int32), bl ≤ 64 → qd_by B → J346 (nI (q + m)) (nI (q + m)) x14 (nI F) (nI E) (nI K) (nI T) (nI n) (nI bl) (nI ol) rl cu S B O R PC PL PM PD)
    (hD : ¬ x14 = 0 → ∀ (bl : Nat) (B : Nat → Int32), bl ≤ 64 → qd_by B → J346 (nI p) (nI q) x14 (nI F) (nI E) (nI K) (nI T) (nI n) (nI bl) (nI ol) rl cu S B O R PC PL PM PD) :
    wL_law_527 post L xs J85 J304 J346 (nI F) (nI E) (nI K) x5 x7 x10 x11 (nI p) (nI q) x14 x15 x16 kc ks (nI F) (nI E) (nI K) (nI T) (nI n) (nI bl) (nI ol) rl cu S B O R PC PL PM PD := by
  have h660 : x14 = 0 → ∀ (bl : Nat) (B : Nat → Int32), bl ≤ 64 → qd_by B → ∃ fu, wL_law_660 post L xs J85 J304 J346 (nI F) (nI E) (nI K) x5 x7 x10 x11 (nI q) x14 x15 kc ks fu (x15 - nI K - nI F) (nI F) (nI E) (nI K) (nI T) (nI n) (nI bl) (nI ol) rl cu S B O R PC PL PM PD := by
    intro z bl B hb hB
    obtain ⟨m, rfl, m1, m2, hJ⟩ := hN z
    refine ⟨100, qf_660 hE hE2 (fun bl B hb hB => ?_) 100 _ bl B hb hB ?_⟩
    · rw [nI_add]
      exact hJ bl B hb hB
    · rw [pk_sub m1]
      exact qf_sub (by omega) (by omega) (by omega)
  have h604 : ∀ (bl : Nat) (B : Nat → Int32), bl ≤ 64 → qd_by B → ∃ fu, wL_law_604 post L xs J85 J304 J346 (nI F) (nI E) (nI K) x5 x7 x10 x11 (nI p) (nI q) x14 x15 x16 kc ks fu (nI p) (nI F) (nI E) (nI K) (nI T) (nI n) (nI bl) (nI ol) rl cu S B O R PC PL PM PD :=
    fun bl B hb hB => ⟨q + 1, qf_604 hs1 hs3 hq h660 hD (q - p) p bl B (by omega) hb hB (q + 1) (by omega)⟩
  have h563 : ∀ z0 z1 : Int32, wL_law_563 post L xs J85 J304 J346 (nI F) (nI E) (nI K) x5 x7 x10 x11 (nI p) (nI q) x14 x15 x16 (nI (q - p)) z0 z1 kc ks (nI F) (nI E) (nI K) (nI T) (nI n) (nI bl) (nI ol) rl cu S B O R PC PL PM PD := by
    intro z0 z1
    unfold wL_law_563
    exact qs_fd hb hB (fun r bl B hb hB => nm_e ⟨100, qf_574 hE hE2 h604 100 _ bl B hb hB (qf_sub (by omega) (by omega) (by omega))⟩)
  unfold wL_law_527
  exact nm_r (pk_sub hp) (qs_least (fun r => br_c (fun _ => qs_least (fun r' => h563 _ _)) (fun _ => h563 _ _)))
theorem qf_ge {a b : Nat} (ha : a ≤ 64) (hb : b ≤ 64) (hK : K ≤ 6) : nI K ≤ nI a - nI b ↔ K + b ≤ a := by
  rw [Int32.le_iff_toInt_le, nI_toInt (by omega), pk_sub_toInt (by omega) (by omega)]
  omega
theorem qf_507 {p q a b : Nat} {z0 : Int32} (hE : 2 ≤ E) (hE2 : E ≤ 255) (hF : F ≤ 15) (hK : K ≤ 6) (hs1 : n ≤ 32) (hb : bl ≤ 64) (hs3 : ol ≤ 32) (hB : qd_by B) (hp : p ≤ q) (hq : q + a ≤ n) (hb2 : b ≤ 2) (hx : x15 = nI a - nI b)
    (hD : ¬ z0 = 0 → ∀ (bl : Nat) (B : Nat → Int32), bl ≤ 64 → qd_by B → J346 (nI p) (nI q) z0 (nI F) (nI E) (nI K) (nI T) (nI n) (nI bl) (nI ol) rl cu S B O R PC PL PM PD)
    (h1 : z0 = 0 → ∀ (bl : Nat) (B : Nat → Int32), bl ≤ 64 → qd_by B → J346 (nI p) (nI (q + 1)) z0 (nI F) (nI E) (nI K) (nI T) (nI n) (nI bl) (nI ol) rl cu S B O R PC PL PM PD)
    (hm : z0 = 0 → ∀ m, K ≤ m → q + m ≤ n → ∀ (bl : Nat) (B : Nat → Int32), bl ≤ 64 → qd_by B → J346 (nI (q + m)) (nI (q + m)) z0 (nI F) (nI E) (nI K) (nI T) (nI n) (nI bl) (nI ol) rl cu S B O R PC PL PM PD) :
    wL_law_507 post L xs J85 J304 J346 (nI F) (nI E) (nI K) x5 x7 x10 x11 (nI p) (nI q) x15 x16 z0 kc ks (nI F) (nI E) (nI K) (nI T) (nI n) (nI bl) (nI ol) rl cu S B O R PC PL PM PD := by
  subst hx
  unfold wL_law_507
  by_cases c : K + b ≤ a
  · exact br_t ((qf_ge (by omega) (by omega) hK).mpr c) (qf_527 hE hE2 hF hs1 hb hs3 hB hp (by omega) (fun z => ⟨a - b, pk_sub (by omega), by omega, by omega, hm z (a - b) (by omega) (by omega)⟩) hD)
  · refine br_f (fun z => c ((qf_ge (by omega) (by omega) hK).mp z)) (br_c (fun z => nm_r (nI_1 q) (h1 z bl B hb hB)) (fun z => ?_))
    exact qf_527 hE hE2 hF hs1 hb hs3 hB hp (by omega) (fun y => absurd y z) hD
theorem qf_478 {p q a : Nat} (hE : 2 ≤ E) (hE2 : E ≤ 255) (hF : F ≤ 15) (hK : K ≤ 6) (hs1 : n ≤ 32) (hb : bl ≤ 64) (hs3 : ol ≤ 32) (hB : qd_by B) (hp : p ≤ q) (hq : q + a ≤ n)
    (hD : q = n → ∀ (bl : Nat) (B : Nat → Int32), bl ≤ 64 → qd_by B → J346 (nI p) (nI q) 1 (nI F) (nI E) (nI K) (nI T) (nI n) (nI bl) (nI ol) rl cu S B O R PC PL PM PD)
    (h1 : q < n → ∀ (bl : Nat) (B : Nat → Int32), bl ≤ 64 → qd_by B → J346 (nI p) (nI (q + 1)) 0 (nI F) (nI E) (nI K) (nI T) (nI n) (nI bl) (nI ol) rl cu S B O R PC PL PM PD)
    (hm : q < n → ∀ m, K ≤ m → q + m ≤ n → ∀ (bl : Nat) (B : Nat → Int32), bl ≤ 64 → qd_by B → J346 (nI (q + m)) (nI (q + m)) 0 (nI F) (nI E) (nI K) (nI T) (nI n) (nI bl) (nI ol) rl cu S B O R PC PL PM PD) :
    wL_law_478 post L xs J85 J304 J346 (nI F) (nI E) (nI K) x5 x7 x10 (nI n) (nI p) (nI q) (nI a) x16 x17 kc ks (nI F) (nI E) (nI K) (nI T) (nI n) (nI bl) (nI ol) rl cu S B O R PC PL PM PD := by
  have h495 : ∀ (b : Nat) (x15 : Int32), b ≤ 2 → x15 = nI a - nI b → wL_law_495 post L xs J85 J304 J346 (nI F) (nI E) (nI K) x5 x7 x10 (nI n) (nI p) (nI q) x15 x16 kc ks (nI F) (nI E) (nI K) (nI T) (nI n) (nI bl) (nI ol) rl cu S B O R PC PL PM PD := by
    intro b x15 hb2 hx
    unfold wL_law_495
    by_cases c : q = n
    · exact br_t (by rw [c]) (qf_507 hE hE2 hF hK hs1 hb hs3 hB hp hq hb2 hx (fun _ => hD c) (fun z => absurd z (by decide)) (fun z => absurd z (by decide)))
    · exact br_f (fun z => c ((nI_eq (by omega) (by omega)).mp z)) (qf_507 hE hE2 hF hK hs1 hb hs3 hB hp hq hb2 hx (fun z => absurd rfl z) (fun _ => h1 (by omega)) (fun _ => hm (by omega)))
  unfold wL_law_478
  refine br_c (fun _ => qs_pick (m := 3) (by decide) (fun r hr => nm_e (h495 r _ (by omega) rfl))) (fun _ => h495 0 _ (by omega) ?_)
  rw [pk_sub (Nat.zero_le _)]
  rfl
theorem qf_377 {q a r0 d : Nat} (hs1 : n ≤ 32) (hb : bl ≤ 64) (hs3 : ol ≤ 32) (hT8 : T ≤ 8) (ha : q + a ≤ n)
    (hJ : ∀ (a : Nat) (x16 : Int32), q + a ≤ n → J367 (nI a) x16 (nI (d + 1))) :
    ∀ (k r : Nat), q + r + k = n → ∀ f, k < f → wL_law_377 post L xs J85 J304 J346 J367 x1 x3 x4 (nI T) x7 x10 (nI n) x12 (nI q) (nI a) x16 (nI d) kc ks (nI F) (nI E) (nI K) (nI T) (nI n) (nI bl) (nI ol) rl cu S B O R PC PL PM PD f (nI r) := by
  have h424 : ∀ r, q + r ≤ n → wL_law_424 post L xs J85 J304 J346 J367 x1 x3 x4 (nI T) x7 x10 (nI n) x12 (nI q) (nI a) x16 (nI d) (nI r) kc ks (nI F) (nI E) (nI K) (nI T) (nI n) (nI bl) (nI ol) rl cu S B O R PC PL PM PD := by
    intro r hr
    unfold wL_law_424
    exact br_c (fun _ => nm_r (nI_1 d) (hJ a _ ha)) (fun _ => nm_r (nI_1 d) (hJ r _ hr))
  have hc : ∀ r, q + r ≤ n → (nI n - nI T ≤ nI q + nI r ↔ n ≤ q + r + T) := by
    intro r hr
    rw [nI_add, Int32.le_iff_toInt_le, pk_sub_toInt (by omega) (by omega), nI_toInt (by omega)]
    omega
  intro k
  induction k with
  | zero =>
    intro r hr f hf
    obtain ⟨f, rfl⟩ : ∃ f', f = f' + 1 := ⟨f - 1, by omega⟩
    exact br_t ((hc r (by omega)).mpr (by omega)) (h424 r (by omega))
  | succ k ih =>
    intro r hr f hf
    obtain ⟨f, rfl⟩ : ∃ f', f = f' + 1 := ⟨f - 1, by omega⟩
    exact br_c (fun _ => h424 r (by omega)) (fun _ => qs_ca hs1 hb hs3 (fun _ => qs_ca hs1 hb hs3 (fun _ => br_c (fun _ => nm_r (nI_1 r) (ih (r + 1) (by omega) f (by omega))) (fun _ => h424 r (by omega)))))
theorem qf_367 {p q at0 : Nat} (hL : L ≤ 260) (hat : at0 ≤ 1000) (hv : v ≤ 3) (hs1 : n ≤ 32) (hb : bl ≤ 64) (hs3 : ol ≤ 32) (hT8 : T ≤ 8) (hq : q ≤ n)
    (h : ∀ (a : Nat) (x16 x17 : Int32), q + a ≤ n → wL_law_478 post L xs J85 J304 J346 x1 x3 x4 (nI T) (nI at0) (nI v) (nI n) x12 (nI q) (nI a) x16 x17 kc ks (nI F) (nI E) (nI K) (nI T) (nI n) (nI bl) (nI ol) rl cu S B O R PC PL PM PD) :
    ∀ (k d a : Nat) (x16 : Int32), d + k = q + 1 → q + a ≤ n → ∀ f, k < f → wL_law_367 post L xs J85 J304 J346 x1 x3 x4 (nI T) (nI at0) (nI v) (nI n) x12 (nI q) kc ks (nI F) (nI E) (nI K) (nI T) (nI n) (nI bl) (nI ol) rl cu S B O R PC PL PM PD f (nI a) x16 (nI d) := by
  intro k
  induction k with
  | zero =>
    intro d a x16 hd ha f hf
    obtain ⟨f, rfl⟩ : ∃ f', f = f' + 1 := ⟨f - 1, by omega⟩
    refine br_t (nI_lt (by omega) (by omega)) ?_
    rw [show nI at0 + nI q + 5 * nI v = nI (at0 + q + 5 * v) from by rw [nI_add, show (5 : Int32) * nI v = nI (5 * v) from pk_mul 5 _, nI_add]]
    exact qs_cell hL (by omega) (fun r => br_c (fun _ => br_c (fun _ => h 0 _ _ (by omega)) (fun _ => h a _ _ ha)) (fun _ => h a _ _ ha))
  | succ k ih =>
    intro d a x16 hd ha f hf
    obtain ⟨f, rfl⟩ : ∃ f', f = f' + 1 := ⟨f - 1, by omega⟩
    exact br_f (nI_nlt (by omega) (by omega)) ⟨n + 1, qf_377 (r0 := 0) hs1 hb hs3 hT8 ha (fun a x16 ha => ih (d + 1) a x16 (by omega) ha f (by omega)) (n - q) 0 (by omega) (n + 1) (by omega)⟩
theorem qf_346 {at0 : Nat} (hL : L ≤ 260) (hat : at0 ≤ 1000) (hv : v ≤ 3) (hE : 2 ≤ E) (hE2 : E ≤ 255) (hF : F ≤ 15) (hK3 : 3 ≤ K) (hK : K ≤ 6) (hT8 : T ≤ 8) (hs1 : n ≤ 32) (hs3 : ol ≤ 32)
    (h : ∀ (bl : Nat) (B : Nat → Int32), bl ≤ 64 → qd_by B → wL_law_700 post L xs J85 J304 (nI F) (nI E) (nI K) (nI T) (nI at0) (nI v) kc ks (nI F) (nI E) (nI K) (nI T) (nI n) (nI bl) (nI ol) rl cu S B O R PC PL PM PD) :
    ∀ (f p q bl : Nat) (B : Nat → Int32), n - q + 1 < f → q ≤ n → p ≤ q → bl ≤ 64 → qd_by B → wL_law_346 post L xs J85 J304 (nI F) (nI E) (nI K) (nI T) (nI at0) (nI v) (nI n) kc ks f (nI p) (nI q) 0 (nI F) (nI E) (nI K) (nI T) (nI n) (nI bl) (nI ol) rl cu S B O R PC PL PM PD := by
  intro f
  induction f with
  | zero => intro p q bl B hf; omega
  | succ f ih =>
    intro p q bl B hf hq hp hb hB
    refine br_t rfl (br_f (nI_nlt (by omega) (by omega)) ⟨q + 2, qf_367 (p := p) hL hat hv hs1 hb hs3 hT8 hq (fun a x16 x17 ha => ?_) q 1 0 0 (by omega) (by omega) (q + 2) (by omega)⟩)
    refine qf_478 hE hE2 hF hK hs1 hb hs3 hB hp ha (fun c bl B hb hB => ?_) (fun c bl B hb hB => ?_) (fun c m m1 m2 bl B hb hB => ?_)
    · obtain ⟨f, rfl⟩ : ∃ f', f = f' + 1 := ⟨f - 1, by omega⟩
      exact br_f (by decide) (h bl B hb hB)
    · exact ih p (q + 1) bl B (by omega) (by omega) (by omega) hb hB
    · exact ih (q + m) (q + m) bl B (by omega) m2 (Nat.le_refl _) hb hB
end
