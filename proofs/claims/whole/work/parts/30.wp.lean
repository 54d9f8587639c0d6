/-! what a function that may have no answer must bring -/
def wp {α : Type} (o : Option α) (Q : α → Prop) : Prop := ∃ x, o = some x ∧ Q x
theorem wp_some {α : Type} (x : α) (Q : α → Prop) : wp (some x) Q ↔ Q x := ⟨fun ⟨y, h, q⟩ => by cases h; exact q, fun q => ⟨x, rfl, q⟩⟩
theorem wp_none {α : Type} (Q : α → Prop) : wp (none : Option α) Q ↔ False := ⟨fun ⟨y, h, q⟩ => (by cases h), False.elim⟩
theorem wp_bind {α β : Type} (o : Option α) (f : α → Option β) (Q : β → Prop) : wp (o.bind f) Q ↔ wp o (fun x => wp (f x) Q) := by
  cases o with
  | none => exact ⟨fun ⟨y, h, q⟩ => (by cases h), fun ⟨y, h, q⟩ => (by cases h)⟩
  | some x => rw [wp_some]; rfl
theorem wp_ite {α : Type} (c : Prop) [Decidable c] (a b : Option α) (Q : α → Prop) : wp (if c then a else b) Q ↔ ((c → wp a Q) ∧ (¬ c → wp b Q)) := by
  by_cases h : c
  · rw [if_pos h]; exact ⟨fun q => ⟨fun _ => q, fun h2 => absurd h h2⟩, fun q => q.1 h⟩
  · rw [if_neg h]; exact ⟨fun q => ⟨fun h2 => absurd h2 h, fun _ => q⟩, fun q => q.2 h⟩
theorem wp_pos {α : Type} {c : Prop} [Decidable c] {a b : Option α} {Q : α → Prop} (h : c) (k : wp a Q) : wp (if c then a else b) Q := by rw [if_pos h]; exact k
theorem wp_neg {α : Type} {c : Prop} [Decidable c] {a b : Option α} {Q : α → Prop} (h : ¬ c) (k : wp b Q) : wp (if c then a else b) Q := by rw [if_neg h]; exact k
theorem wp.mono {α : Type} {o : Option α} {P Q : α → Prop} (h : wp o P) (k : ∀ x, P x → Q x) : wp o Q := by
  obtain ⟨x, h1, h2⟩ := h
  exact ⟨x, h1, k x h2⟩
theorem wp.bnd {α β : Type} {o : Option α} {f : α → Option β} {P : α → Prop} {Q : β → Prop} (h : wp o P) (k : ∀ x, P x → wp (f x) Q) : wp (o.bind f) Q := (wp_bind o f Q).mpr (h.mono k)
/-- a loop that counts down a measure -/
theorem wp_lp {S X : Type} {f : S → Option (S ⊕ X)} (I : Nat → S → Prop) {Q : X → Prop} (h : ∀ k s, I k s → wp (f s) (fun z => match z with
    | .inl t => ∃ k1, k1 < k ∧ I k1 t
    | .inr x => Q x)) : ∀ (k : Nat) (s : S) (N : Nat), I k s → k < N → wp (lpN f N s) Q := by
  intro k
  induction k using Nat.strongRecOn with
  | ind k ih =>
    intro s N hI hN
    obtain ⟨M, rfl⟩ : ∃ M, N = M + 1 := ⟨N - 1, by omega⟩
    obtain ⟨z, hz, hq⟩ := h k s hI
    unfold wp
    simp only [lpN, hz]
    cases z with
    | inl t =>
      obtain ⟨k1, h1, h2⟩ := hq
      exact ih k1 h1 t M h2 (by omega)
    | inr x => exact ⟨x, rfl, hq⟩
/-- a loop whose count i goes up to n -/
theorem wp_for {S X : Type} {f : S → Option (S ⊕ X)} (n : Nat) (I : Nat → S → Prop) {Q : X → Prop} (h : ∀ i s, i < n → I i s → wp (f s) (fun z => match z with
    | .inl t => I (i + 1) t
    | .inr x => Q x)) (h2 : ∀ s, I n s → wp (f s) (fun z => match z with
    | .inl _ => False
    | .inr x => Q x)) {i : Nat} {s : S} {N : Nat} (hi : i ≤ n) (hs : I i s) (hN : n < N + i) : wp (lpN f N s) Q := by
  refine wp_lp (fun k s => k ≤ n ∧ I (n - k) s) (Q := Q) ?_ (n - i) s N ⟨by omega, by rw [show n - (n - i) = i by omega]; exact hs⟩ (by omega)
  rintro k s ⟨hk, hI⟩
  by_cases h0 : k = 0
  · subst h0
    refine (h2 s hI).mono (fun z hz => ?_)
    cases z with
    | inl t => exact hz.elim
    | inr x => exact hz
  · refine (h (n - k) s (by omega) hI).mono (fun z hz => ?_)
    cases z with
    | inl t => exact ⟨k - 1, by omega, by omega, by rw [show n - (k - 1) = n - k + 1 by omega]; exact hz⟩
    | inr x => exact hz
/-- all cells but these stand -/
def Sam (S : List Nat) (h h1 : HI) : Prop := ∀ a, a ∉ S → h1 a = h a
theorem Sam.refl (S : List Nat) (h : HI) : Sam S h h := fun _ _ => rfl
theorem Sam.trans {S T : List Nat} {h h1 h2 : HI} (x : Sam S h h1) (y : Sam T h1 h2) (U : List Nat) (hS : ∀ a ∈ S, a ∈ U) (hT : ∀ a ∈ T, a ∈ U) : Sam U h h2 := fun a ha => (y a (fun q => ha (hT a q))).trans (x a (fun q => ha (hS a q)))
theorem Sam.wr {S : List Nat} {h h1 : HI} (x : Sam S h h1) {a k : Nat} {v : Int32} (ha : a ∈ S) : Sam S h (wr h1 a k v) := fun b hb => by
  have : b ≠ a := fun q => hb (q ▸ ha)
  show va_up h1 a _ b = _
  simp only [va_up, if_neg this]
  exact x b hb
theorem Sam.up {S : List Nat} {h h1 : HI} (x : Sam S h h1) {a : Nat} {f : Nat → Int32} (ha : a ∈ S) : Sam S h (va_up h1 a f) := fun b hb => by
  have : b ≠ a := fun q => hb (q ▸ ha)
  simp only [va_up, if_neg this]
  exact x b hb
theorem Sam.sub {S T : List Nat} {h h1 : HI} (x : Sam S h h1) (hS : ∀ a ∈ S, a ∈ T) : Sam T h h1 := fun a ha => x a (fun q => ha (hS a q))
theorem wr_o {h : HI} {a b k : Nat} {v : Int32} (hab : b ≠ a) : wr h a k v b = h b := by show va_up h a _ b = _; simp only [va_up, if_neg hab]
theorem wr_s (h : HI) (a k : Nat) (v : Int32) : wr h a k v a k = v := by simp [wr, va_up, upd]
theorem wr_k {h : HI} {a k j : Nat} {v : Int32} (hj : j ≠ k) : wr h a k v a j = h a j := by simp [wr, va_up, upd, hj]
theorem wr_i (h : HI) (a k : Nat) (v : Int32) (j : Nat) : wr h a k v a j = if j = k then v else h a j := by simp [wr, va_up, upd]
theorem up_o {h : HI} {a b : Nat} {f : Nat → Int32} (hab : b ≠ a) : va_up h a f b = h b := by simp only [va_up, if_neg hab]
theorem up_s (h : HI) (a : Nat) (f : Nat → Int32) : va_up h a f a = f := by simp [va_up]
/-! numbers -/
theorem lit_I (n : Nat) : (@OfNat.ofNat Int32 n Int32.instOfNat) = nI (OfNat.ofNat n) := rfl
def sdf (a b : Nat) : Nat := a ^^^ (a &&& b)
theorem sdf_bit (a b i : Nat) : (sdf a b).testBit i = (a.testBit i && !b.testBit i) := by
  unfold sdf
  rw [Nat.testBit_xor, Nat.testBit_and]
  cases a.testBit i <;> cases b.testBit i <;> rfl
theorem ni_andnot (a b : Nat) : nI a &&& (nI b ^^^ (-1)) = nI (sdf a b) := by
  refine b_ext (fun i hi => ?_)
  have t : ∀ n : Nat, bt (nI n) i = n.testBit i := fun n => by
    show (BitVec.ofNat 32 n).getLsbD i = _
    rw [BitVec.getLsbD_ofNat]
    simp [hi]
  rw [b_and, b_xor, t, t, t, b_m1 i hi, sdf_bit]
  cases a.testBit i <;> cases b.testBit i <;> rfl
theorem ni_shl {a k : Nat} (hk : k < 32) (h : a * 2 ^ k < 2 ^ 32) : nI a <<< (nI k &&& nI 31) = nI (a * 2 ^ k) := pk_shlN _ k (s_l k hk) h
theorem ni_shr {a k : Nat} (hk : k < 32) (h : a < 2 ^ 31) : nI a >>> (nI k &&& nI 31) = nI (a / 2 ^ k) := pk_shrN h _ k (s_l k hk)
theorem ni_one {k : Nat} (hk : k < 32) : nI 1 <<< (nI k &&& nI 31) = nI (2 ^ k) := by
  have h := ni_shl (a := 1) hk (by rw [Nat.one_mul]; exact Nat.pow_lt_pow_right (by decide) hk)
  rwa [Nat.one_mul] at h
theorem ni_nlt {n : Nat} (h : n < 2 ^ 31) : (nI n < nI 0) = False := eq_false (nI_pos h)
theorem ni_bit {n j : Nat} (h : n < 2 ^ 31) (hj : j < 32) : ((nI n >>> (nI j &&& nI 31)) &&& nI 1 = nI 0) ↔ n.testBit j = false := by
  rw [ni_shr hj h, fa_and, nI_eq (Nat.lt_of_le_of_lt Nat.and_le_right (by decide)) (by decide), Nat.and_one_is_mod, Nat.testBit_eq_decide_div_mod_eq]
  have := Nat.mod_two_eq_zero_or_one (n / 2 ^ j)
  rcases this with h1 | h1 <;> simp [h1]
theorem ni_neg4 {n : Nat} (h : n < 2 ^ 31) : (nI n = -4) = False := eq_false (fun q => by
  have := congrArg Int32.toInt q
  rw [nI_toInt h] at this
  have e : (-4 : Int32).toInt = -4 := by decide
  rw [e] at this
  omega)
