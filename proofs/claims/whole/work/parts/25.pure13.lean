/-! ===== the pure part, 13: scans, hulls ===== -/
def scn (Q : Nat → Bool) (bet : Nat → Nat → Bool) : Nat → Option Nat
  | 0 => none
  | k + 1 => if Q k = true then (match scn Q bet k with
      | none => some k
      | some s => if bet k s = true then some k else some s) else scn Q bet k
section PVA
variable {Q Q1 Q2 : Nat → Bool} {bet bet2 : Nat → Nat → Bool} {k s : Nat}
theorem scN (h : Q k = false) : scn Q bet (k + 1) = scn Q bet k := by simp only [scn]; rw [if_neg (by rw [h]; decide)]
theorem sc0 (h : Q k = true) (h2 : scn Q bet k = none) : scn Q bet (k + 1) = some k := by simp only [scn]; rw [if_pos h, h2]
theorem scY (h : Q k = true) (h2 : scn Q bet k = some s) (h3 : bet k s = true) : scn Q bet (k + 1) = some k := by simp only [scn]; rw [if_pos h, h2]; simp only; rw [if_pos h3]
theorem scZ (h : Q k = true) (h2 : scn Q bet k = some s) (h3 : bet k s = false) : scn Q bet (k + 1) = some s := by simp only [scn]; rw [if_pos h, h2]; simp only; rw [if_neg (by rw [h3]; decide)]
theorem scIn : ∀ n s, scn Q bet n = some s → s < n ∧ Q s = true := by
  intro n
  induction n with
  | zero => intro s h; simp [scn] at h
  | succ n ih =>
    intro s h
    cases hq : Q n with
    | false => rw [scN hq] at h; have := ih s h; exact ⟨by omega, this.2⟩
    | true =>
      cases hs : scn Q bet n with
      | none => rw [sc0 hq hs] at h; injection h with h; subst h; exact ⟨by omega, hq⟩
      | some t =>
        cases hb : bet n t with
        | true => rw [scY hq hs hb] at h; injection h with h; subst h; exact ⟨by omega, hq⟩
        | false => rw [scZ hq hs hb] at h; have := ih s (by rw [hs]; exact h); exact ⟨by omega, this.2⟩
/-- an order for a scan -/
def ordr (Q : Nat → Bool) (bet : Nat → Nat → Bool) : Prop := (∀ j k s, Q j = true → Q k = true → Q s = true → bet k s = true → bet j s = false → bet k j = true) ∧ ∀ j k, Q j = true → Q k = true → bet j k = true → bet k j = false
theorem scNo : ∀ n, scn Q bet n = none → ∀ k, k < n → Q k = false := by
  intro n
  induction n with
  | zero => intro _ k hk; omega
  | succ n ih =>
    intro h k hk
    cases hq : Q n with
    | false =>
      rw [scN hq] at h
      by_cases e : k = n
      · subst e; exact hq
      · exact ih h k (by omega)
    | true =>
      exfalso
      cases hs : scn Q bet n with
      | none => rw [sc0 hq hs] at h; cases h
      | some t =>
        cases hb : bet n t with
        | true => rw [scY hq hs hb] at h; cases h
        | false => rw [scZ hq hs hb] at h; cases h
theorem scSp (ho : ordr Q bet) : ∀ n s, scn Q bet n = some s → ∀ k, k < n → Q k = true → bet k s = false ∧ (k < s → bet s k = true) := by
  intro n
  induction n with
  | zero => intro s h; simp [scn] at h
  | succ n ih =>
    intro s h k hk hQ
    cases hq : Q n with
    | false =>
      rw [scN hq] at h
      by_cases e : k = n
      · subst e; rw [hq] at hQ; cases hQ
      · exact ih s h k (by omega) hQ
    | true =>
      have self : bet n n = false := by
        cases hb : bet n n with
        | false => rfl
        | true => have := ho.2 n n hq hq hb; rw [hb] at this; exact this
      cases hs : scn Q bet n with
      | none =>
        rw [sc0 hq hs] at h; injection h with h; subst h
        by_cases e : k = n
        · subst e; exact ⟨self, fun z => absurd z (Nat.lt_irrefl _)⟩
        · have := scNo n hs k (by omega); rw [this] at hQ; cases hQ
      | some t =>
        have ht := scIn n t hs
        cases hb : bet n t with
        | true =>
          rw [scY hq hs hb] at h; injection h with h; subst h
          by_cases e : k = n
          · subst e; exact ⟨self, fun z => absurd z (Nat.lt_irrefl _)⟩
          · have h1 := (ih t hs k (by omega) hQ).1
            have h2 := ho.1 k n t hQ hq ht.2 hb h1
            exact ⟨ho.2 n k hq hQ h2, fun _ => h2⟩
        | false =>
          rw [scZ hq hs hb] at h; injection h with h; subst h
          by_cases e : k = n
          · subst e; exact ⟨hb, fun z => absurd z (by omega)⟩
          · exact ih t hs k (by omega) hQ
theorem scEq {n : Nat} (ho : ordr Q1 bet) (sub : ∀ k, Q2 k = true → Q1 k = true) (opt : ∀ s, scn Q1 bet n = some s → Q2 s = true) : scn Q2 bet n = scn Q1 bet n := by
  have ho2 : ordr Q2 bet := ⟨fun j k s hj hk hs => ho.1 j k s (sub j hj) (sub k hk) (sub s hs), fun j k hj hk => ho.2 j k (sub j hj) (sub k hk)⟩
  cases h2 : scn Q2 bet n with
  | none =>
    cases h1 : scn Q1 bet n with
    | none => rfl
    | some s =>
      have := scNo n h2 s (scIn n s h1).1
      rw [opt s h1] at this; cases this
  | some t =>
    have ht := scIn n t h2
    cases h1 : scn Q1 bet n with
    | none =>
      have := scNo n h1 t ht.1
      rw [sub t ht.2] at this; cases this
    | some s =>
      have hs := scIn n s h1
      have a1 := scSp ho n s h1 t ht.1 (sub t ht.2)
      have a2 := scSp ho2 n t h2 s hs.1 (opt s h1)
      by_cases e1 : t < s
      · have := a1.2 e1; rw [a2.1] at this; cases this
      · by_cases e2 : s < t
        · have := a2.2 e2; rw [a1.1] at this; cases this
        · rw [show t = s by omega]
theorem scCg : ∀ n, (∀ k s, k < n → s < n → Q k = true → Q s = true → bet k s = bet2 k s) → scn Q bet n = scn Q bet2 n := by
  intro n
  induction n with
  | zero => intro _; rfl
  | succ n ih =>
    intro h
    have ih := ih (fun k s hk hs => h k s (by omega) (by omega))
    cases hq : Q n with
    | false => rw [scN hq, scN hq, ih]
    | true =>
      cases hs : scn Q bet n with
      | none => rw [sc0 hq hs, sc0 hq (by rw [← ih]; exact hs)]
      | some t =>
        have ht := scIn n t hs
        have hs2 : scn Q bet2 n = some t := by rw [← ih]; exact hs
        cases hb : bet n t with
        | true => rw [scY hq hs hb, scY hq hs2 (by rw [← h n t (by omega) (by omega) hq ht.2]; exact hb)]
        | false => rw [scZ hq hs hb, scZ hq hs2 (by rw [← h n t (by omega) (by omega) hq ht.2]; exact hb)]
end PVA
/-! points of a pair: bytes B, errors E, n of them -/
section PVB
variable (B E : Nat → Nat) (n : Nat)
/-- point j does not speak against point k being a best one -/
def okj (j k : Nat) : Bool := if B j = B k ∧ E j = E k then decide (k ≤ j) else decide (B k < B j ∨ E k < E j)
def bsN (k : Nat) : Nat → Bool
  | 0 => true
  | j + 1 => bsN k j && okj B E j k
def bst (k : Nat) : Bool := bsN B E k n
def lex (k s : Nat) : Bool := decide (B k < B s ∨ (B k = B s ∧ E k < E s))
def lesB (k s : Nat) : Bool := decide (B k < B s)
def cand (l k : Nat) : Bool := decide (B l < B k ∧ E k < E l)
def can2 (l k : Nat) : Bool := bst B E n k && decide (B l < B k)
def stp (l k s : Nat) : Bool := decide ((E l - E s) * (B k - B l) < (E l - E k) * (B s - B l) ∨ ((E l - E k) * (B s - B l) = (E l - E s) * (B k - B l) ∧ B s - B l < B k - B l))
def fst0 : Option Nat := scn (fun _ => true) (lex B E) n
def nxt (l : Nat) : Option Nat := scn (cand B E l) (stp B E l) n
variable {B E n}
theorem bs_all {k : Nat} : ∀ {n : Nat}, bsN B E k n = true ↔ ∀ j, j < n → okj B E j k = true
  | 0 => ⟨fun _ j hj => absurd hj (Nat.not_lt_zero j), fun _ => rfl⟩
  | n + 1 => by
    have ih := bs_all (k := k) (n := n)
    simp only [bsN, Bool.and_eq_true]
    constructor
    · intro h j hj
      by_cases e : j = n
      · subst e; exact h.2
      · exact ih.mp h.1 j (by omega)
    · intro h
      exact ⟨ih.mpr (fun j hj => h j (by omega)), h n (by omega)⟩
theorem ok_iff {j k : Nat} : okj B E j k = true ↔ ((B j = B k ∧ E j = E k) ∧ k ≤ j) ∨ (¬ (B j = B k ∧ E j = E k) ∧ (B k < B j ∨ E k < E j)) := by
  unfold okj
  by_cases h : B j = B k ∧ E j = E k
  · rw [if_pos h, decide_eq_true_iff]; exact ⟨fun z => Or.inl ⟨h, z⟩, fun z => by rcases z with z | z; exact z.2; exact absurd h z.1⟩
  · rw [if_neg h, decide_eq_true_iff]; exact ⟨fun z => Or.inr ⟨h, z⟩, fun z => by rcases z with z | z; exact absurd z.1 h; exact z.2⟩
theorem dec_f {p : Prop} [Decidable p] (h : decide p = false) : ¬ p := of_decide_eq_false h
theorem dec_t {p : Prop} [Decidable p] (h : decide p = true) : p := of_decide_eq_true h
theorem lex_o : ordr (fun _ => true) (lex B E) := by
  unfold ordr lex
  refine ⟨fun j k s _ _ _ h1 h2 => ?_, fun j k _ _ h1 => ?_⟩
  · have h1 := dec_t h1
    have h2 := dec_f h2
    exact decide_eq_true (by omega)
  · have h1 := dec_t h1
    exact decide_eq_false (by omega)
theorem mul3 (a b c : Nat) : a * b * c = a * c * b := by rw [Nat.mul_assoc, Nat.mul_comm b c, Nat.mul_assoc]
theorem stp_o (l : Nat) : ordr (cand B E l) (stp B E l) := by
  refine ⟨fun j k s hj hk hs h1 h2 => ?_, fun j k hj hk h1 => ?_⟩
  · have hj := dec_t hj
    have hk := dec_t hk
    have hs := dec_t hs
    have h1 := dec_t h1
    have h2 := dec_f h2
    refine decide_eq_true ?_
    have gj : 0 < B j - B l := by omega
    have gk : 0 < B k - B l := by omega
    have gs : 0 < B s - B l := by omega
    clear hj hk hs
    generalize B j - B l = Gj at *
    generalize B k - B l = Gk at *
    generalize B s - B l = Gs at *
    generalize E l - E j = Fj at *
    generalize E l - E k = Fk at *
    generalize E l - E s = Fs at *
    have e1 : Fj * Gs ≤ Fs * Gj := by
      by_cases h : Fs * Gj < Fj * Gs
      · exact absurd (Or.inl h) h2
      · omega
    have e2 : Fj * Gs * Gk ≤ Fs * Gj * Gk := Nat.mul_le_mul_right _ e1
    rcases h1 with h1 | ⟨h1, h1b⟩
    · left
      have e3 : Fs * Gk * Gj < Fk * Gs * Gj := Nat.mul_lt_mul_of_pos_right h1 gj
      have e4 : Fj * Gk * Gs < Fk * Gj * Gs := by
        rw [mul3 Fj Gk Gs, mul3 Fk Gj Gs]
        rw [mul3 Fs Gj Gk] at e2
        omega
      exact Nat.lt_of_mul_lt_mul_right e4
    · by_cases he : Fj * Gs = Fs * Gj
      · right
        have hg : Gj ≤ Gs := by
          by_cases h : Gs < Gj
          · exact absurd (Or.inr ⟨he, h⟩) h2
          · omega
        refine ⟨?_, by omega⟩
        have e5 : Fk * Gj * Gs = Fj * Gk * Gs := by
          rw [mul3 Fk Gj Gs, h1, mul3 Fj Gk Gs, he, mul3 Fs Gj Gk]
        exact Nat.eq_of_mul_eq_mul_right gs e5
      · left
        have e6 : Fj * Gs * Gk < Fs * Gj * Gk := Nat.mul_lt_mul_of_pos_right (by omega) gk
        have e4 : Fj * Gk * Gs < Fk * Gj * Gs := by
          rw [mul3 Fj Gk Gs, mul3 Fk Gj Gs, h1]
          rw [mul3 Fs Gj Gk] at e6
          exact e6
        exact Nat.lt_of_mul_lt_mul_right e4
  · have h1 := dec_t h1
    refine decide_eq_false ?_
    generalize B j - B l = Gj at *
    generalize B k - B l = Gk at *
    generalize (E l - E j) * Gk = x at *
    generalize (E l - E k) * Gj = y at *
    omega
theorem fst_best {s : Nat} (h : fst0 B E n = some s) : bst B E n s = true := by
  refine bs_all.mpr (fun j hj => ok_iff.mpr ?_)
  have := scSp lex_o n s h j hj rfl
  have h1 := dec_f this.1
  by_cases e : B j = B s ∧ E j = E s
  · left
    refine ⟨e, ?_⟩
    by_cases hlt : j < s
    · have := dec_t (this.2 hlt); omega
    · omega
  · right
    exact ⟨e, by omega⟩
theorem fst_eq : scn (bst B E n) (lesB B) n = fst0 B E n := by
  have e1 : scn (bst B E n) (lesB B) n = scn (bst B E n) (lex B E) n := by
    refine scCg n (fun k s hk hs bk bs => ?_)
    have h1 := ok_iff.mp (bs_all.mp bs k hk)
    unfold lesB lex
    refine decide_eq_decide.mpr ?_
    omega
  rw [e1]
  exact scEq lex_o (fun _ _ => rfl) (fun s h => fst_best h)
theorem nxt_best {l s : Nat} (hl : l < n) (hb : bst B E n l = true) (h : nxt B E n l = some s) : bst B E n s = true := by
  have hs := scIn n s h
  have hc := dec_t hs.2
  refine bs_all.mpr (fun j hj => ok_iff.mpr ?_)
  have hlj := ok_iff.mp (bs_all.mp hb j hj)
  by_cases e : B j = B s ∧ E j = E s
  · left
    refine ⟨e, ?_⟩
    by_cases hlt : j < s
    · have hq : cand B E l j = true := decide_eq_true (by omega)
      have := dec_t ((scSp (stp_o l) n s h j hj hq).2 hlt)
      rw [e.1, e.2] at this
      omega
    · omega
  · right
    refine ⟨e, ?_⟩
    by_cases hd : B s < B j ∨ E s < E j
    · exact hd
    · exfalso
      have hq : cand B E l j = true := decide_eq_true (by omega)
      have h1 := dec_f (scSp (stp_o l) n s h j hj hq).1
      have hq := dec_t hq
      apply h1
      left
      have f1 : E l - E s ≤ E l - E j := by omega
      have g1 : B j - B l ≤ B s - B l := by omega
      by_cases hE : E j < E s
      · have a1 : (E l - E s) * (B j - B l) ≤ (E l - E s) * (B s - B l) := Nat.mul_le_mul_left _ g1
        have a2 : (E l - E s) * (B s - B l) < (E l - E j) * (B s - B l) := Nat.mul_lt_mul_of_pos_right (by omega) (by omega)
        omega
      · have a1 : (E l - E s) * (B j - B l) < (E l - E s) * (B s - B l) := Nat.mul_lt_mul_of_pos_left (by omega) (by omega)
        have a2 : (E l - E s) * (B s - B l) ≤ (E l - E j) * (B s - B l) := Nat.mul_le_mul_right _ f1
        omega
theorem nxt_eq {l : Nat} (hl : l < n) (hb : bst B E n l = true) : scn (can2 B E n l) (stp B E l) n = nxt B E n l := by
  refine scEq (stp_o l) (fun k h => ?_) (fun s h => ?_)
  · have h2 : bst B E n k = true ∧ decide (B l < B k) = true := by
      have := h; unfold can2 at this; rw [Bool.and_eq_true] at this; exact this
    have h3 := dec_t h2.2
    have := ok_iff.mp (bs_all.mp h2.1 l hl)
    exact decide_eq_true (by omega)
  · have hc := dec_t (scIn n s h).2
    unfold can2
    rw [Bool.and_eq_true]
    exact ⟨nxt_best hl hb h, decide_eq_true hc.1⟩
end PVB
