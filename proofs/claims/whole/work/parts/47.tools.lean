-- TOOLS: runs that end (wp), loops, folds, searches, reading behind writes
def wp (r : ob_Res) (P : Int → ob_Mem → Prop) : Prop := ∃ v m, r = some (v, (m, none)) ∧ P v m
theorem wp_ret {v : Int} {m : ob_Mem} {P : Int → ob_Mem → Prop} (h : P v m) : wp (some (v, (m, none))) P := ⟨v, m, rfl, h⟩
theorem wp_b {r : ob_Res} {k : Int × ob_MM → ob_Res} {P Q : Int → ob_Mem → Prop} (h : wp r Q) (hk : ∀ v m, Q v m → wp (k (v, (m, none))) P) : wp (r.bind k) P := by
  obtain ⟨v, m, e, h⟩ := h
  rw [e]
  exact hk v m h
theorem wp_mono {r : ob_Res} {P Q : Int → ob_Mem → Prop} (h : wp r P) (hq : ∀ v m, P v m → Q v m) : wp r Q := by
  obtain ⟨v, m, e, h⟩ := h
  exact ⟨v, m, e, hq v m h⟩
theorem wp_eq {r : ob_Res} {V : Int} {M : ob_Mem} (h : wp r (fun v m => v = V ∧ m = M)) : r = some (V, (M, none)) := by
  obtain ⟨v, m, e, h1, h2⟩ := h
  rw [e, h1, h2]
theorem wp_of {r : ob_Res} {V : Int} {M : ob_Mem} {P : Int → ob_Mem → Prop} (h : r = some (V, (M, none))) (hp : P V M) : wp r P := ⟨V, M, h, hp⟩
theorem wp_r {r q : ob_Res} {P : Int → ob_Mem → Prop} (h : r = q) (hp : wp q P) : wp r P := by
  rw [h]
  exact hp
theorem wp_if {c : Prop} {d : Decidable c} {a b : ob_Res} {P : Int → ob_Mem → Prop} (h1 : c → wp a P) (h2 : ¬ c → wp b P) : wp (@ite _ c d a b) P := by
  by_cases h : c
  · rw [if_pos h]
    exact h1 h
  · rw [if_neg h]
    exact h2 h
theorem wp_for {α : Type} {P : Int → ob_Mem → Prop} (L : Int → α → ob_Res) (lo n : Int) (I : Int → α → Prop) (hs : ∀ j x, lo ≤ j → j < n → I j x → (∀ x', I (j + 1) x' → wp (L (j + 1) x') P) → wp (L j x) P) (hf : ∀ x, I n x → wp (L n x) P) (hn : lo ≤ n) {x : α} (h0 : I lo x) : wp (L lo x) P := by
  have key : ∀ (k : Nat) (j : Int) (x : α), j + k = n → lo ≤ j → I j x → wp (L j x) P := by
    intro k
    induction k with
    | zero =>
      intro j x e _ h
      obtain rfl : j = n := by omega
      exact hf x h
    | succ k ih =>
      intro j x e h1 h
      exact hs j x h1 (by omega) h (fun x' h' => ih (j + 1) x' (by omega) (by omega) h')
  exact key (n - lo).toNat lo x (by omega) (Int.le_refl _) h0
/-- a fold over 0 .. n-1 -/
def fo {α : Type} (f : Int → α → α) (a : α) : Nat → α
  | 0 => a
  | n + 1 => f (n : Int) (fo f a n)
theorem fo_s {α : Type} {f : Int → α → α} {a : α} {j : Int} (h : 0 ≤ j) : fo f a (j + 1).toNat = f j (fo f a j.toNat) := by
  rw [show (j + 1).toNat = j.toNat + 1 by omega]
  show f (j.toNat : Int) _ = _
  rw [show (j.toNat : Int) = j by omega]
theorem fo_c {α : Type} {f g : Int → α → α} {a : α} : ∀ n : Nat, (∀ j : Int, 0 ≤ j → j < (n : Int) → ∀ x, f j x = g j x) → fo f a n = fo g a n
  | 0, _ => rfl
  | n + 1, h => by
    show f (n : Int) (fo f a n) = g (n : Int) (fo g a n)
    rw [fo_c n (fun j h1 h2 x => h j h1 (by omega) x), h n (by omega) (by omega)]
theorem fo_cat {α : Type} {f : Int → α → α} {a : α} (n : Nat) : ∀ k : Nat, fo f a (n + k) = fo (fun i => f ((n : Int) + i)) (fo f a n) k
  | 0 => rfl
  | k + 1 => by
    show f ((n + k : Nat) : Int) (fo f a (n + k)) = f ((n : Int) + (k : Int)) _
    rw [fo_cat n k, show ((n + k : Nat) : Int) = (n : Int) + (k : Int) by omega]
theorem fo_id {α : Type} {f : Int → α → α} {a : α} : ∀ n : Nat, (∀ j : Int, 0 ≤ j → j < (n : Int) → ∀ x, f j x = x) → fo f a n = a
  | 0, _ => rfl
  | n + 1, h => by
    show f (n : Int) (fo f a n) = a
    rw [fo_id n (fun j h1 h2 x => h j h1 (by omega) x), h n (by omega) (by omega)]
theorem fo_inv {α : Type} {f : Int → α → α} {a : α} (Q : α → Prop) (h0 : Q a) : ∀ n : Nat, (∀ j : Int, 0 ≤ j → j < (n : Int) → ∀ x, Q x → Q (f j x)) → Q (fo f a n)
  | 0, _ => h0
  | n + 1, h => h n (by omega) (by omega) _ (fo_inv Q h0 n (fun j h1 h2 x => h j h1 (by omega) x))
/-- the first below n with B, or -1 -/
def Fst (B : Int → Prop) (n v : Int) : Prop := (0 ≤ v ∧ v < n ∧ B v ∧ ∀ i, 0 ≤ i → i < v → ¬ B i) ∨ (v = -1 ∧ ∀ i, 0 ≤ i → i < n → ¬ B i)
theorem Fst_u {B : Int → Prop} {n v w : Int} (h1 : Fst B n v) (h2 : Fst B n w) : v = w := by
  rcases h1 with ⟨a1, a2, a3, a4⟩ | ⟨a1, a2⟩
  · rcases h2 with ⟨b1, b2, b3, b4⟩ | ⟨b1, b2⟩
    · rcases Int.lt_trichotomy v w with h | h | h
      · exact absurd a3 (b4 v a1 h)
      · exact h
      · exact absurd b3 (a4 w b1 h)
    · exact absurd a3 (b2 v a1 a2)
  · rcases h2 with ⟨b1, b2, b3, b4⟩ | ⟨b1, b2⟩
    · exact absurd b3 (a2 w b1 b2)
    · rw [a1, b1]
theorem Fst_c {B C : Int → Prop} {n v : Int} (h : ∀ i, 0 ≤ i → i < n → (B i ↔ C i)) (h1 : Fst B n v) : Fst C n v := by
  rcases h1 with ⟨a1, a2, a3, a4⟩ | ⟨a1, a2⟩
  · exact Or.inl ⟨a1, a2, (h v a1 a2).mp a3, fun i h1 h2 q => a4 i h1 h2 ((h i h1 (by omega)).mpr q)⟩
  · exact Or.inr ⟨a1, fun i h1 h2 q => a2 i h1 h2 ((h i h1 h2).mpr q)⟩
theorem Fst_fnd {B : Nat → Bool} {n : Int} : Fst (fun i => B i.toNat = true) n (oI (fnd B n.toNat 0)) := by
  cases e : fnd B n.toNat 0 with
  | none =>
    refine Or.inr ⟨rfl, fun i h1 h2 h => ?_⟩
    have := fnd_none e i.toNat (by omega) (by omega)
    have h : B i.toNat = true := h
    rw [this] at h
    cases h
  | some j =>
    obtain ⟨h1, h2, h3, h4⟩ := fnd_some e
    refine Or.inl ⟨?_, ?_, ?_, fun i g1 g2 h => ?_⟩
    · show 0 ≤ ((j : Nat) : Int)
      omega
    · show ((j : Nat) : Int) < n
      omega
    · exact h3
    · have g2 : i < ((j : Nat) : Int) := g2
      have h : B i.toNat = true := h
      rw [h4 i.toNat (by omega) (by omega)] at h
      cases h
theorem rs_k {m : ob_Mem} {k k' : Nat} {i s x i' s' : Int} (h : k' ≠ k) : ob_set m k i s x k' i' s' = m k' i' s' := if_neg (fun q => h q.1)
theorem rs_i {m : ob_Mem} {k k' : Nat} {i s x i' s' : Int} (h : i' ≠ i) : ob_set m k i s x k' i' s' = m k' i' s' := if_neg (fun q => h q.2.1)
theorem rs_s {m : ob_Mem} {k k' : Nat} {i s x i' s' : Int} (h : s' ≠ s) : ob_set m k i s x k' i' s' = m k' i' s' := if_neg (fun q => h q.2.2)
theorem rs_e {m : ob_Mem} {k : Nat} {i s x i' s' : Int} (h1 : i' = i) (h2 : s' = s) : ob_set m k i s x k i' s' = x := if_pos ⟨rfl, h1, h2⟩
theorem rc_k {m : ob_Mem} {k k2 k' : Nat} {i p i2 p2 n i' s' : Int} (h : k' ≠ k2) : ob_cpy m k i p k2 i2 p2 n k' i' s' = m k' i' s' := if_neg (fun q => h q.1)
theorem rc_i {m : ob_Mem} {k k2 k' : Nat} {i p i2 p2 n i' s' : Int} (h : i' ≠ i2) : ob_cpy m k i p k2 i2 p2 n k' i' s' = m k' i' s' := if_neg (fun q => h q.2.1)
theorem rc_s {m : ob_Mem} {k k2 k' : Nat} {i p i2 p2 n i' s' : Int} (h : s' < p2 ∨ p2 + n ≤ s') : ob_cpy m k i p k2 i2 p2 n k' i' s' = m k' i' s' := if_neg (fun q => by omega)
theorem rc_e {m : ob_Mem} {k k2 : Nat} {i p i2 p2 n i' s' : Int} (h1 : i' = i2) (h2 : p2 ≤ s' ∧ s' < p2 + n) : ob_cpy m k i p k2 i2 p2 n k2 i' s' = m k i (p + (s' - p2)) := if_pos ⟨rfl, h1, h2.1, h2.2⟩
/-- a row with one number changed -/
def up (s : Int → Int) (p x : Int) : Int → Int := fun q => if q = p then x else s q
theorem up_e {s : Int → Int} {p x q : Int} (h : q = p) : up s p x q = x := if_pos h
theorem up_n {s : Int → Int} {p x q : Int} (h : q ≠ p) : up s p x q = s q := if_neg h
theorem rw_e {m : ob_Mem} {k : Nat} {i p x : Int} : ob_set m k i p x k i = up (m k i) p x := by
  funext q
  unfold up ob_set
  by_cases h : q = p
  · rw [if_pos h, if_pos ⟨rfl, rfl, h⟩]
  · rw [if_neg h, if_neg (fun z => h z.2.2)]
theorem rw_k {m : ob_Mem} {k k' : Nat} {i p x i' : Int} (h : k' ≠ k) : ob_set m k i p x k' i' = m k' i' := by
  funext q
  exact if_neg (fun z => h z.1)
/-- nothing but the model's own is changed -/
def fM (m m' : ob_Mem) : Prop := ∀ k i s, ¬ (k = 8 ∨ 40 ≤ k) → m' k i s = m k i s
/-- nothing of the model and of the script is changed -/
def fC (m m' : ob_Mem) : Prop := ∀ k i s, (k = 8 ∨ 40 ≤ k ∨ k = 14 ∨ k = 15) → m' k i s = m k i s
/-- nothing outside G is changed -/
def sm (G : Nat → Int → Prop) (m m' : ob_Mem) : Prop := ∀ k i s, ¬ G k i → m' k i s = m k i s
theorem sm_r {G : Nat → Int → Prop} {m : ob_Mem} : sm G m m := fun _ _ _ _ => rfl
theorem sm_t {G : Nat → Int → Prop} {m m' m'' : ob_Mem} (h : sm G m m') (h' : sm G m' m'') : sm G m m'' := fun k i s q => (h' k i s q).trans (h k i s q)
theorem sm_m {G H : Nat → Int → Prop} {m m' : ob_Mem} (h : sm G m m') (g : ∀ k i, G k i → H k i) : sm H m m' := fun k i s q => h k i s (fun z => q (g k i z))
theorem sm_set {G : Nat → Int → Prop} {m m' : ob_Mem} {k : Nat} {i p x : Int} (h : sm G m m') (g : G k i) : sm G m (ob_set m' k i p x) := fun k' i' s' q => by
  refine Eq.trans (if_neg (fun z => q ?_)) (h k' i' s' q)
  rw [z.1, z.2.1]
  exact g
theorem sm_cpy {G : Nat → Int → Prop} {m m' : ob_Mem} {k k2 : Nat} {i p i2 p2 n : Int} (h : sm G m m') (g : G k2 i2) : sm G m (ob_cpy m' k i p k2 i2 p2 n) := fun k' i' s' q => by
  refine Eq.trans (if_neg (fun z => q ?_)) (h k' i' s' q)
  rw [z.1, z.2.1]
  exact g
