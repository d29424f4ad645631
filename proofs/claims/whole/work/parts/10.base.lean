def lz1 {T1 : Type} (body : (T1 → Prop) → T1 → Prop) : Nat → T1 → Prop
  | 0 => fun _ => False
  | n + 1 => body (lz1 body n)
def Lz1 {T1 : Type} (body : (T1 → Prop) → T1 → Prop) (a1 : T1) : Prop := ∃ n, lz1 body n a1
theorem Lz1_go {T1 : Type} {body : (T1 → Prop) → T1 → Prop} {a1 : T1} {Gg : T1 → Prop} (h : Lz1 body a1) (step : ∀ (again : T1 → Prop), (∀ (a1 : T1), again a1 → Gg a1) → ∀ (a1 : T1), body again a1 → Gg a1) : Gg a1 := by
  obtain ⟨n, h⟩ := h
  induction n generalizing a1 with
  | zero => exact h.elim
  | succ n ih => exact step (lz1 body n) (fun a1 h => ih h) a1 h
theorem Lz1_gr {T1 : Type} {body : (T1 → Prop) → T1 → Prop} {Gg : T1 → Prop} (step : ∀ (again : T1 → Prop), (∀ (a1 : T1), again a1 → Gg a1) → ∀ (a1 : T1), body again a1 → Gg a1) : ∀ (a1 : T1), Lz1 body a1 → Gg a1 := fun a1 h => Lz1_go h step
theorem Lz1_by {T1 : Type} {body : (T1 → Prop) → T1 → Prop} (I : T1 → Prop) (μ : T1 → Nat) (a1 : T1) (h0 : I a1) (step : ∀ (a1 : T1), I a1 → ∀ (again : T1 → Prop), (∀ (b1 : T1), I b1 → μ b1 < μ a1 → again b1) → body again a1) : Lz1 body a1 := by
  have key : ∀ (n : Nat) (a1 : T1), I a1 → μ a1 < n → lz1 body n a1 := by
    intro n
    induction n with
    | zero => intro a1 _ h; exact absurd h (Nat.not_lt_zero _)
    | succ n ih => intro a1 hI hm; exact step a1 hI (lz1 body n) (fun b1 hI2 hm2 => ih b1 hI2 (Nat.lt_of_lt_of_le hm2 (Nat.le_of_lt_succ hm)))
  exact ⟨_, key (μ a1 + 1) a1 h0 (Nat.lt_succ_self _)⟩
def lz2 {T1 T2 : Type} (body : (T1 → T2 → Prop) → T1 → T2 → Prop) : Nat → T1 → T2 → Prop
  | 0 => fun _ _ => False
  | n + 1 => body (lz2 body n)
def Lz2 {T1 T2 : Type} (body : (T1 → T2 → Prop) → T1 → T2 → Prop) (a1 : T1) (a2 : T2) : Prop := ∃ n, lz2 body n a1 a2
theorem Lz2_go {T1 T2 : Type} {body : (T1 → T2 → Prop) → T1 → T2 → Prop} {a1 : T1} {a2 : T2} {Gg : T1 → T2 → Prop} (h : Lz2 body a1 a2) (step : ∀ (again : T1 → T2 → Prop), (∀ (a1 : T1) (a2 : T2), again a1 a2 → Gg a1 a2) → ∀ (a1 : T1) (a2 : T2), body again a1 a2 → Gg a1 a2) : Gg a1 a2 := by
  obtain ⟨n, h⟩ := h
  induction n generalizing a1 a2 with
  | zero => exact h.elim
  | succ n ih => exact step (lz2 body n) (fun a1 a2 h => ih h) a1 a2 h
theorem Lz2_gr {T1 T2 : Type} {body : (T1 → T2 → Prop) → T1 → T2 → Prop} {Gg : T1 → T2 → Prop} (step : ∀ (again : T1 → T2 → Prop), (∀ (a1 : T1) (a2 : T2), again a1 a2 → Gg a1 a2) → ∀ (a1 : T1) (a2 : T2), body again a1 a2 → Gg a1 a2) : ∀ (a1 : T1) (a2 : T2), Lz2 body a1 a2 → Gg a1 a2 := fun a1 a2 h => Lz2_go h step
theorem Lz2_by {T1 T2 : Type} {body : (T1 → T2 → Prop) → T1 → T2 → Prop} (I : T1 → T2 → Prop) (μ : T1 → T2 → Nat) (a1 : T1) (a2 : T2) (h0 : I a1 a2) (step : ∀ (a1 : T1) (a2 : T2), I a1 a2 → ∀ (again : T1 → T2 → Prop), (∀ (b1 : T1) (b2 : T2), I b1 b2 → μ b1 b2 < μ a1 a2 → again b1 b2) → body again a1 a2) : Lz2 body a1 a2 := by
  have key : ∀ (n : Nat) (a1 : T1) (a2 : T2), I a1 a2 → μ a1 a2 < n → lz2 body n a1 a2 := by
    intro n
    induction n with
    | zero => intro a1 a2 _ h; exact absurd h (Nat.not_lt_zero _)
    | succ n ih => intro a1 a2 hI hm; exact step a1 a2 hI (lz2 body n) (fun b1 b2 hI2 hm2 => ih b1 b2 hI2 (Nat.lt_of_lt_of_le hm2 (Nat.le_of_lt_succ hm)))
  exact ⟨_, key (μ a1 a2 + 1) a1 a2 h0 (Nat.lt_succ_self _)⟩
def lz3 {T1 T2 T3 : Type} (body : (T1 → T2 → T3 → Prop) → T1 → T2 → T3 → Prop) : Nat → T1 → T2 → T3 → Prop
  | 0 => fun _ _ _ => False
  | n + 1 => body (lz3 body n)
def Lz3 {T1 T2 T3 : Type} (body : (T1 → T2 → T3 → Prop) → T1 → T2 → T3 → Prop) (a1 : T1) (a2 : T2) (a3 : T3) : Prop := ∃ n, lz3 body n a1 a2 a3
theorem Lz3_go {T1 T2 T3 : Type} {body : (T1 → T2 → T3 → Prop) → T1 → T2 → T3 → Prop} {a1 : T1} {a2 : T2} {a3 : T3} {Gg : T1 → T2 → T3 → Prop} (h : Lz3 body a1 a2 a3) (step : ∀ (again : T1 → T2 → T3 → Prop), (∀ (a1 : T1) (a2 : T2) (a3 : T3), again a1 a2 a3 → Gg a1 a2 a3) → ∀ (a1 : T1) (a2 : T2) (a3 : T3), body again a1 a2 a3 → Gg a1 a2 a3) : Gg a1 a2 a3 := by
  obtain ⟨n, h⟩ := h
  induction n generalizing a1 a2 a3 with
  | zero => exact h.elim
  | succ n ih => exact step (lz3 body n) (fun a1 a2 a3 h => ih h) a1 a2 a3 h
theorem Lz3_gr {T1 T2 T3 : Type} {body : (T1 → T2 → T3 → Prop) → T1 → T2 → T3 → Prop} {Gg : T1 → T2 → T3 → Prop} (step : ∀ (again : T1 → T2 → T3 → Prop), (∀ (a1 : T1) (a2 : T2) (a3 : T3), again a1 a2 a3 → Gg a1 a2 a3) → ∀ (a1 : T1) (a2 : T2) (a3 : T3), body again a1 a2 a3 → Gg a1 a2 a3) : ∀ (a1 : T1) (a2 : T2) (a3 : T3), Lz3 body a1 a2 a3 → Gg a1 a2 a3 := fun a1 a2 a3 h => Lz3_go h step
theorem Lz3_by {T1 T2 T3 : Type} {body : (T1 → T2 → T3 → Prop) → T1 → T2 → T3 → Prop} (I : T1 → T2 → T3 → Prop) (μ : T1 → T2 → T3 → Nat) (a1 : T1) (a2 : T2) (a3 : T3) (h0 : I a1 a2 a3) (step : ∀ (a1 : T1) (a2 : T2) (a3 : T3), I a1 a2 a3 → ∀ (again : T1 → T2 → T3 → Prop), (∀ (b1 : T1) (b2 : T2) (b3 : T3), I b1 b2 b3 → μ b1 b2 b3 < μ a1 a2 a3 → again b1 b2 b3) → body again a1 a2 a3) : Lz3 body a1 a2 a3 := by
  have key : ∀ (n : Nat) (a1 : T1) (a2 : T2) (a3 : T3), I a1 a2 a3 → μ a1 a2 a3 < n → lz3 body n a1 a2 a3 := by
    intro n
    induction n with
    | zero => intro a1 a2 a3 _ h; exact absurd h (Nat.not_lt_zero _)
    | succ n ih => intro a1 a2 a3 hI hm; exact step a1 a2 a3 hI (lz3 body n) (fun b1 b2 b3 hI2 hm2 => ih b1 b2 b3 hI2 (Nat.lt_of_lt_of_le hm2 (Nat.le_of_lt_succ hm)))
  exact ⟨_, key (μ a1 a2 a3 + 1) a1 a2 a3 h0 (Nat.lt_succ_self _)⟩
def lz4 {T1 T2 T3 T4 : Type} (body : (T1 → T2 → T3 → T4 → Prop) → T1 → T2 → T3 → T4 → Prop) : Nat → T1 → T2 → T3 → T4 → Prop
  | 0 => fun _ _ _ _ => False
  | n + 1 => body (lz4 body n)
def Lz4 {T1 T2 T3 T4 : Type} (body : (T1 → T2 → T3 → T4 → Prop) → T1 → T2 → T3 → T4 → Prop) (a1 : T1) (a2 : T2) (a3 : T3) (a4 : T4) : Prop := ∃ n, lz4 body n a1 a2 a3 a4
theorem Lz4_go {T1 T2 T3 T4 : Type} {body : (T1 → T2 → T3 → T4 → Prop) → T1 → T2 → T3 → T4 → Prop} {a1 : T1} {a2 : T2} {a3 : T3} {a4 : T4} {Gg : T1 → T2 → T3 → T4 → Prop} (h : Lz4 body a1 a2 a3 a4) (step : ∀ (again : T1 → T2 → T3 → T4 → Prop), (∀ (a1 : T1) (a2 : T2) (a3 : T3) (a4 : T4), again a1 a2 a3 a4 → Gg a1 a2 a3 a4) → ∀ (a1 : T1) (a2 : T2) (a3 : T3) (a4 : T4), body again a1 a2 a3 a4 → Gg a1 a2 a3 a4) : Gg a1 a2 a3 a4 := by
  obtain ⟨n, h⟩ := h
  induction n generalizing a1 a2 a3 a4 with
  | zero => exact h.elim
  | succ n ih => exact step (lz4 body n) (fun a1 a2 a3 a4 h => ih h) a1 a2 a3 a4 h
theorem Lz4_gr {T1 T2 T3 T4 : Type} {body : (T1 → T2 → T3 → T4 → Prop) → T1 → T2 → T3 → T4 → Prop} {Gg : T1 → T2 → T3 → T4 → Prop} (step : ∀ (again : T1 → T2 → T3 → T4 → Prop), (∀ (a1 : T1) (a2 : T2) (a3 : T3) (a4 : T4), again a1 a2 a3 a4 → Gg a1 a2 a3 a4) → ∀ (a1 : T1) (a2 : T2) (a3 : T3) (a4 : T4), body again a1 a2 a3 a4 → Gg a1 a2 a3 a4) : ∀ (a1 : T1) (a2 : T2) (a3 : T3) (a4 : T4), Lz4 body a1 a2 a3 a4 → Gg a1 a2 a3 a4 := fun a1 a2 a3 a4 h => Lz4_go h step
theorem Lz4_by {T1 T2 T3 T4 : Type} {body : (T1 → T2 → T3 → T4 → Prop) → T1 → T2 → T3 → T4 → Prop} (I : T1 → T2 → T3 → T4 → Prop) (μ : T1 → T2 → T3 → T4 → Nat) (a1 : T1) (a2 : T2) (a3 : T3) (a4 : T4) (h0 : I a1 a2 a3 a4) (step : ∀ (a1 : T1) (a2 : T2) (a3 : T3) (a4 : T4), I a1 a2 a3 a4 → ∀ (again : T1 → T2 → T3 → T4 → Prop), (∀ (b1 : T1) (b2 : T2) (b3 : T3) (b4 : T4), I b1 b2 b3 b4 → μ b1 b2 b3 b4 < μ a1 a2 a3 a4 → again b1 b2 b3 b4) → body again a1 a2 a3 a4) : Lz4 body a1 a2 a3 a4 := by
  have key : ∀ (n : Nat) (a1 : T1) (a2 : T2) (a3 : T3) (a4 : T4), I a1 a2 a3 a4 → μ a1 a2 a3 a4 < n → lz4 body n a1 a2 a3 a4 := by
    intro n
    induction n with
    | zero => intro a1 a2 a3 a4 _ h; exact absurd h (Nat.not_lt_zero _)
    | succ n ih => intro a1 a2 a3 a4 hI hm; exact step a1 a2 a3 a4 hI (lz4 body n) (fun b1 b2 b3 b4 hI2 hm2 => ih b1 b2 b3 b4 hI2 (Nat.lt_of_lt_of_le hm2 (Nat.le_of_lt_succ hm)))
  exact ⟨_, key (μ a1 a2 a3 a4 + 1) a1 a2 a3 a4 h0 (Nat.lt_succ_self _)⟩
def lz5 {T1 T2 T3 T4 T5 : Type} (body : (T1 → T2 → T3 → T4 → T5 → Prop) → T1 → T2 → T3 → T4 → T5 → Prop) : Nat → T1 → T2 → T3 → T4 → T5 → Prop
  | 0 => fun _ _ _ _ _ => False
  | n + 1 => body (lz5 body n)
def Lz5 {T1 T2 T3 T4 T5 : Type} (body : (T1 → T2 → T3 → T4 → T5 → Prop) → T1 → T2 → T3 → T4 → T5 → Prop) (a1 : T1) (a2 : T2) (a3 : T3) (a4 : T4) (a5 : T5) : Prop := ∃ n, lz5 body n a1 a2 a3 a4 a5
theorem Lz5_go {T1 T2 T3 T4 T5 : Type} {body : (T1 → T2 → T3 → T4 → T5 → Prop) → T1 → T2 → T3 → T4 → T5 → Prop} {a1 : T1} {a2 : T2} {a3 : T3} {a4 : T4} {a5 : T5} {Gg : T1 → T2 → T3 → T4 → T5 → Prop} (h : Lz5 body a1 a2 a3 a4 a5) (step : ∀ (again : T1 → T2 → T3 → T4 → T5 → Prop), (∀ (a1 : T1) (a2 : T2) (a3 : T3) (a4 : T4) (a5 : T5), again a1 a2 a3 a4 a5 → Gg a1 a2 a3 a4 a5) → ∀ (a1 : T1) (a2 : T2) (a3 : T3) (a4 : T4) (a5 : T5), body again a1 a2 a3 a4 a5 → Gg a1 a2 a3 a4 a5) : Gg a1 a2 a3 a4 a5 := by
  obtain ⟨n, h⟩ := h
  induction n generalizing a1 a2 a3 a4 a5 with
  | zero => exact h.elim
  | succ n ih => exact step (lz5 body n) (fun a1 a2 a3 a4 a5 h => ih h) a1 a2 a3 a4 a5 h
theorem Lz5_gr {T1 T2 T3 T4 T5 : Type} {body : (T1 → T2 → T3 → T4 → T5 → Prop) → T1 → T2 → T3 → T4 → T5 → Prop} {Gg : T1 → T2 → T3 → T4 → T5 → Prop} (step : ∀ (again : T1 → T2 → T3 → T4 → T5 → Prop), (∀ (a1 : T1) (a2 : T2) (a3 : T3) (a4 : T4) (a5 : T5), again a1 a2 a3 a4 a5 → Gg a1 a2 a3 a4 a5) → ∀ (a1 : T1) (a2 : T2) (a3 : T3) (a4 : T4) (a5 : T5), body again a1 a2 a3 a4 a5 → Gg a1 a2 a3 a4 a5) : ∀ (a1 : T1) (a2 : T2) (a3 : T3) (a4 : T4) (a5 : T5), Lz5 body a1 a2 a3 a4 a5 → Gg a1 a2 a3 a4 a5 := fun a1 a2 a3 a4 a5 h => Lz5_go h step
theorem Lz5_by {T1 T2 T3 T4 T5 : Type} {body : (T1 → T2 → T3 → T4 → T5 → Prop) → T1 → T2 → T3 → T4 → T5 → Prop} (I : T1 → T2 → T3 → T4 → T5 → Prop) (μ : T1 → T2 → T3 → T4 → T5 → Nat) (a1 : T1) (a2 : T2) (a3 : T3) (a4 : T4) (a5 : T5) (h0 : I a1 a2 a3 a4 a5) (step : ∀ (a1 : T1) (a2 : T2) (a3 : T3) (a4 : T4) (a5 : T5), I a1 a2 a3 a4 a5 → ∀ (again : T1 → T2 → T3 → T4 → T5 → Prop), (∀ (b1 : T1) (b2 : T2) (b3 : T3) (b4 : T4) (b5 : T5), I b1 b2 b3 b4 b5 → μ b1 b2 b3 b4 b5 < μ a1 a2 a3 a4 a5 → again b1 b2 b3 b4 b5) → body again a1 a2 a3 a4 a5) : Lz5 body a1 a2 a3 a4 a5 := by
  have key : ∀ (n : Nat) (a1 : T1) (a2 : T2) (a3 : T3) (a4 : T4) (a5 : T5), I a1 a2 a3 a4 a5 → μ a1 a2 a3 a4 a5 < n → lz5 body n a1 a2 a3 a4 a5 := by
    intro n
    induction n with
    | zero => intro a1 a2 a3 a4 a5 _ h; exact absurd h (Nat.not_lt_zero _)
    | succ n ih => intro a1 a2 a3 a4 a5 hI hm; exact step a1 a2 a3 a4 a5 hI (lz5 body n) (fun b1 b2 b3 b4 b5 hI2 hm2 => ih b1 b2 b3 b4 b5 hI2 (Nat.lt_of_lt_of_le hm2 (Nat.le_of_lt_succ hm)))
  exact ⟨_, key (μ a1 a2 a3 a4 a5 + 1) a1 a2 a3 a4 a5 h0 (Nat.lt_succ_self _)⟩
def lz6 {T1 T2 T3 T4 T5 T6 : Type} (body : (T1 → T2 → T3 → T4 → T5 → T6 → Prop) → T1 → T2 → T3 → T4 → T5 → T6 → Prop) : Nat → T1 → T2 → T3 → T4 → T5 → T6 → Prop
  | 0 => fun _ _ _ _ _ _ => False
  | n + 1 => body (lz6 body n)
def Lz6 {T1 T2 T3 T4 T5 T6 : Type} (body : (T1 → T2 → T3 → T4 → T5 → T6 → Prop) → T1 → T2 → T3 → T4 → T5 → T6 → Prop) (a1 : T1) (a2 : T2) (a3 : T3) (a4 : T4) (a5 : T5) (a6 : T6) : Prop := ∃ n, lz6 body n a1 a2 a3 a4 a5 a6
theorem Lz6_go {T1 T2 T3 T4 T5 T6 : Type} {body : (T1 → T2 → T3 → T4 → T5 → T6 → Prop) → T1 → T2 → T3 → T4 → T5 → T6 → Prop} {a1 : T1} {a2 : T2} {a3 : T3} {a4 : T4} {a5 : T5} {a6 : T6} {Gg : T1 → T2 → T3 → T4 → T5 → T6 → Prop} (h : Lz6 body a1 a2 a3 a4 a5 a6) (step : ∀ (again : T1 → T2 → T3 → T4 → T5 → T6 → Prop), (∀ (a1 : T1) (a2 : T2) (a3 : T3) (a4 : T4) (a5 : T5) (a6 : T6), again a1 a2 a3 a4 a5 a6 → Gg a1 a2 a3 a4 a5 a6) → ∀ (a1 : T1) (a2 : T2) (a3 : T3) (a4 : T4) (a5 : T5) (a6 : T6), body again a1 a2 a3 a4 a5 a6 → Gg a1 a2 a3 a4 a5 a6) : Gg a1 a2 a3 a4 a5 a6 := by
  obtain ⟨n, h⟩ := h
  induction n generalizing a1 a2 a3 a4 a5 a6 with
  | zero => exact h.elim
  | succ n ih => exact step (lz6 body n) (fun a1 a2 a3 a4 a5 a6 h => ih h) a1 a2 a3 a4 a5 a6 h
theorem Lz6_gr {T1 T2 T3 T4 T5 T6 : Type} {body : (T1 → T2 → T3 → T4 → T5 → T6 → Prop) → T1 → T2 → T3 → T4 → T5 → T6 → Prop} {Gg : T1 → T2 → T3 → T4 → T5 → T6 → Prop} (step : ∀ (again : T1 → T2 → T3 → T4 → T5 → T6 → Prop), (∀ (a1 : T1) (a2 : T2) (a3 : T3) (a4 : T4) (a5 : T5) (a6 : T6), again a1 a2 a3 a4 a5 a6 → Gg a1 a2 a3 a4 a5 a6) → ∀ (a1 : T1) (a2 : T2) (a3 : T3) (a4 : T4) (a5 : T5) (a6 : T6), body again a1 a2 a3 a4 a5 a6 → Gg a1 a2 a3 a4 a5 a6) : ∀ (a1 : T1) (a2 : T2) (a3 : T3) (a4 : T4) (a5 : T5) (a6 : T6), Lz6 body a1 a2 a3 a4 a5 a6 → Gg a1 a2 a3 a4 a5 a6 := fun a1 a2 a3 a4 a5 a6 h => Lz6_go h step
theorem Lz6_by {T1 T2 T3 T4 T5 T6 : Type} {body : (T1 → T2 → T3 → T4 → T5 → T6 → Prop) → T1 → T2 → T3 → T4 → T5 → T6 → Prop} (I : T1 → T2 → T3 → T4 → T5 → T6 → Prop) (μ : T1 → T2 → T3 → T4 → T5 → T6 → Nat) (a1 : T1) (a2 : T2) (a3 : T3) (a4 : T4) (a5 : T5) (a6 : T6) (h0 : I a1 a2 a3 a4 a5 a6) (step : ∀ (a1 : T1) (a2 : T2) (a3 : T3) (a4 : T4) (a5 : T5) (a6 : T6), I a1 a2 a3 a4 a5 a6 → ∀ (again : T1 → T2 → T3 → T4 → T5 → T6 → Prop), (∀ (b1 : T1) (b2 : T2) (b3 : T3) (b4 : T4) (b5 : T5) (b6 : T6), I b1 b2 b3 b4 b5 b6 → μ b1 b2 b3 b4 b5 b6 < μ a1 a2 a3 a4 a5 a6 → again b1 b2 b3 b4 b5 b6) → body again a1 a2 a3 a4 a5 a6) : Lz6 body a1 a2 a3 a4 a5 a6 := by
  have key : ∀ (n : Nat) (a1 : T1) (a2 : T2) (a3 : T3) (a4 : T4) (a5 : T5) (a6 : T6), I a1 a2 a3 a4 a5 a6 → μ a1 a2 a3 a4 a5 a6 < n → lz6 body n a1 a2 a3 a4 a5 a6 := by
    intro n
    induction n with
    | zero => intro a1 a2 a3 a4 a5 a6 _ h; exact absurd h (Nat.not_lt_zero _)
    | succ n ih => intro a1 a2 a3 a4 a5 a6 hI hm; exact step a1 a2 a3 a4 a5 a6 hI (lz6 body n) (fun b1 b2 b3 b4 b5 b6 hI2 hm2 => ih b1 b2 b3 b4 b5 b6 hI2 (Nat.lt_of_lt_of_le hm2 (Nat.le_of_lt_succ hm)))
  exact ⟨_, key (μ a1 a2 a3 a4 a5 a6 + 1) a1 a2 a3 a4 a5 a6 h0 (Nat.lt_succ_self _)⟩
def lz7 {T1 T2 T3 T4 T5 T6 T7 : Type} (body : (T1 → T2 → T3 → T4 → T5 → T6 → T7 → Prop) → T1 → T2 → T3 → T4 → T5 → T6 → T7 → Prop) : Nat → T1 → T2 → T3 → T4 → T5 → T6 → T7 → Prop
  | 0 => fun _ _ _ _ _ _ _ => False
  | n + 1 => body (lz7 body n)
def Lz7 {T1 T2 T3 T4 T5 T6 T7 : Type} (body : (T1 → T2 → T3 → T4 → T5 → T6 → T7 → Prop) → T1 → T2 → T3 → T4 → T5 → T6 → T7 → Prop) (a1 : T1) (a2 : T2) (a3 : T3) (a4 : T4) (a5 : T5) (a6 : T6) (a7 : T7) : Prop := ∃ n, lz7 body n a1 a2 a3 a4 a5 a6 a7
theorem Lz7_go {T1 T2 T3 T4 T5 T6 T7 : Type} {body : (T1 → T2 → T3 → T4 → T5 → T6 → T7 → Prop) → T1 → T2 → T3 → T4 → T5 → T6 → T7 → Prop} {a1 : T1} {a2 : T2} {a3 : T3} {a4 : T4} {a5 : T5} {a6 : T6} {a7 : T7} {Gg : T1 → T2 → T3 → T4 → T5 → T6 → T7 → Prop} (h : Lz7 body a1 a2 a3 a4 a5 a6 a7) (step : ∀ (again : T1 → T2 → T3 → T4 → T5 → T6 → T7 → Prop), (∀ (a1 : T1) (a2 : T2) (a3 : T3) (a4 : T4) (a5 : T5) (a6 : T6) (a7 : T7), again a1 a2 a3 a4 a5 a6 a7 → Gg a1 a2 a3 a4 a5 a6 a7) → ∀ (a1 : T1) (a2 : T2) (a3 : T3) (a4 : T4) (a5 : T5) (a6 : T6) (a7 : T7), body again a1 a2 a3 a4 a5 a6 a7 → Gg a1 a2 a3 a4 a5 a6 a7) : Gg a1 a2 a3 a4 a5 a6 a7 := by
  obtain ⟨n, h⟩ := h
  induction n generalizing a1 a2 a3 a4 a5 a6 a7 with
  | zero => exact h.elim
  | succ n ih => exact step (lz7 body n) (fun a1 a2 a3 a4 a5 a6 a7 h => ih h) a1 a2 a3 a4 a5 a6 a7 h
theorem Lz7_gr {T1 T2 T3 T4 T5 T6 T7 : Type} {body : (T1 → T2 → T3 → T4 → T5 → T6 → T7 → Prop) → T1 → T2 → T3 → T4 → T5 → T6 → T7 → Prop} {Gg : T1 → T2 → T3 → T4 → T5 → T6 → T7 → Prop} (step : ∀ (again : T1 → T2 → T3 → T4 → T5 → T6 → T7 → Prop), (∀ (a1 : T1) (a2 : T2) (a3 : T3) (a4 : T4) (a5 : T5) (a6 : T6) (a7 : T7), again a1 a2 a3 a4 a5 a6 a7 → Gg a1 a2 a3 a4 a5 a6 a7) → ∀ (a1 : T1) (a2 : T2) (a3 : T3) (a4 : T4) (a5 : T5) (a6 : T6) (a7 : T7), body again a1 a2 a3 a4 a5 a6 a7 → Gg a1 a2 a3 a4 a5 a6 a7) : ∀ (a1 : T1) (a2 : T2) (a3 : T3) (a4 : T4) (a5 : T5) (a6 : T6) (a7 : T7), Lz7 body a1 a2 a3 a4 a5 a6 a7 → Gg a1 a2 a3 a4 a5 a6 a7 := fun a1 a2 a3 a4 a5 a6 a7 h => Lz7_go h step
theorem Lz7_by {T1 T2 T3 T4 T5 T6 T7 : Type} {body : (T1 → T2 → T3 → T4 → T5 → T6 → T7 → Prop) → T1 → T2 → T3 → T4 → T5 → T6 → T7 → Prop} (I : T1 → T2 → T3 → T4 → T5 → T6 → T7 → Prop) (μ : T1 → T2 → T3 → T4 → T5 → T6 → T7 → Nat) (a1 : T1) (a2 : T2) (a3 : T3) (a4 : T4) (a5 : T5) (a6 : T6) (a7 : T7) (h0 : I a1 a2 a3 a4 a5 a6 a7) (step : ∀ (a1 : T1) (a2 : T2) (a3 : T3) (a4 : T4) (a5 : T5) (a6 : T6) (a7 : T7), I a1 a2 a3 a4 a5 a6 a7 → ∀ (again : T1 → T2 → T3 → T4 → T5 → T6 → T7 → Prop), (∀ (b1 : T1) (b2 : T2) (b3 : T3) (b4 : T4) (b5 : T5) (b6 : T6) (b7 : T7), I b1 b2 b3 b4 b5 b6 b7 → μ b1 b2 b3 b4 b5 b6 b7 < μ a1 a2 a3 a4 a5 a6 a7 → again b1 b2 b3 b4 b5 b6 b7) → body again a1 a2 a3 a4 a5 a6 a7) : Lz7 body a1 a2 a3 a4 a5 a6 a7 := by
  have key : ∀ (n : Nat) (a1 : T1) (a2 : T2) (a3 : T3) (a4 : T4) (a5 : T5) (a6 : T6) (a7 : T7), I a1 a2 a3 a4 a5 a6 a7 → μ a1 a2 a3 a4 a5 a6 a7 < n → lz7 body n a1 a2 a3 a4 a5 a6 a7 := by
    intro n
    induction n with
    | zero => intro a1 a2 a3 a4 a5 a6 a7 _ h; exact absurd h (Nat.not_lt_zero _)
    | succ n ih => intro a1 a2 a3 a4 a5 a6 a7 hI hm; exact step a1 a2 a3 a4 a5 a6 a7 hI (lz7 body n) (fun b1 b2 b3 b4 b5 b6 b7 hI2 hm2 => ih b1 b2 b3 b4 b5 b6 b7 hI2 (Nat.lt_of_lt_of_le hm2 (Nat.le_of_lt_succ hm)))
  exact ⟨_, key (μ a1 a2 a3 a4 a5 a6 a7 + 1) a1 a2 a3 a4 a5 a6 a7 h0 (Nat.lt_succ_self _)⟩
def lz8 {T1 T2 T3 T4 T5 T6 T7 T8 : Type} (body : (T1 → T2 → T3 → T4 → T5 → T6 → T7 → T8 → Prop) → T1 → T2 → T3 → T4 → T5 → T6 → T7 → T8 → Prop) : Nat → T1 → T2 → T3 → T4 → T5 → T6 → T7 → T8 → Prop
  | 0 => fun _ _ _ _ _ _ _ _ => False
  | n + 1 => body (lz8 body n)
def Lz8 {T1 T2 T3 T4 T5 T6 T7 T8 : Type} (body : (T1 → T2 → T3 → T4 → T5 → T6 → T7 → T8 → Prop) → T1 → T2 → T3 → T4 → T5 → T6 → T7 → T8 → Prop) (a1 : T1) (a2 : T2) (a3 : T3) (a4 : T4) (a5 : T5) (a6 : T6) (a7 : T7) (a8 : T8) : Prop := ∃ n, lz8 body n a1 a2 a3 a4 a5 a6 a7 a8
theorem Lz8_go {T1 T2 T3 T4 T5 T6 T7 T8 : Type} {body : (T1 → T2 → T3 → T4 → T5 → T6 → T7 → T8 → Prop) → T1 → T2 → T3 → T4 → T5 → T6 → T7 → T8 → Prop} {a1 : T1} {a2 : T2} {a3 : T3} {a4 : T4} {a5 : T5} {a6 : T6} {a7 : T7} {a8 : T8} {Gg : T1 → T2 → T3 → T4 → T5 → T6 → T7 → T8 → Prop} (h : Lz8 body a1 a2 a3 a4 a5 a6 a7 a8) (step : ∀ (again : T1 → T2 → T3 → T4 → T5 → T6 → T7 → T8 → Prop), (∀ (a1 : T1) (a2 : T2) (a3 : T3) (a4 : T4) (a5 : T5) (a6 : T6) (a7 : T7) (a8 : T8), again a1 a2 a3 a4 a5 a6 a7 a8 → Gg a1 a2 a3 a4 a5 a6 a7 a8) → ∀ (a1 : T1) (a2 : T2) (a3 : T3) (a4 : T4) (a5 : T5) (a6 : T6) (a7 : T7) (a8 : T8), body again a1 a2 a3 a4 a5 a6 a7 a8 → Gg a1 a2 a3 a4 a5 a6 a7 a8) : Gg a1 a2 a3 a4 a5 a6 a7 a8 := by
  obtain ⟨n, h⟩ := h
  induction n generalizing a1 a2 a3 a4 a5 a6 a7 a8 with
  | zero => exact h.elim
  | succ n ih => exact step (lz8 body n) (fun a1 a2 a3 a4 a5 a6 a7 a8 h => ih h) a1 a2 a3 a4 a5 a6 a7 a8 h
theorem Lz8_gr {T1 T2 T3 T4 T5 T6 T7 T8 : Type} {body : (T1 → T2 → T3 → T4 → T5 → T6 → T7 → T8 → Prop) → T1 → T2 → T3 → T4 → T5 → T6 → T7 → T8 → Prop} {Gg : T1 → T2 → T3 → T4 → T5 → T6 → T7 → T8 → Prop} (step : ∀ (again : T1 → T2 → T3 → T4 → T5 → T6 → T7 → T8 → Prop), (∀ (a1 : T1) (a2 : T2) (a3 : T3) (a4 : T4) (a5 : T5) (a6 : T6) (a7 : T7) (a8 : T8), again a1 a2 a3 a4 a5 a6 a7 a8 → Gg a1 a2 a3 a4 a5 a6 a7 a8) → ∀ (a1 : T1) (a2 : T2) (a3 : T3) (a4 : T4) (a5 : T5) (a6 : T6) (a7 : T7) (a8 : T8), body again a1 a2 a3 a4 a5 a6 a7 a8 → Gg a1 a2 a3 a4 a5 a6 a7 a8) : ∀ (a1 : T1) (a2 : T2) (a3 : T3) (a4 : T4) (a5 : T5) (a6 : T6) (a7 : T7) (a8 : T8), Lz8 body a1 a2 a3 a4 a5 a6 a7 a8 → Gg a1 a2 a3 a4 a5 a6 a7 a8 := fun a1 a2 a3 a4 a5 a6 a7 a8 h => Lz8_go h step
theorem Lz8_by {T1 T2 T3 T4 T5 T6 T7 T8 : Type} {body : (T1 → T2 → T3 → T4 → T5 → T6 → T7 → T8 → Prop) → T1 → T2 → T3 → T4 → T5 → T6 → T7 → T8 → Prop} (I : T1 → T2 → T3 → T4 → T5 → T6 → T7 → T8 → Prop) (μ : T1 → T2 → T3 → T4 → T5 → T6 → T7 → T8 → Nat) (a1 : T1) (a2 : T2) (a3 : T3) (a4 : T4) (a5 : T5) (a6 : T6) (a7 : T7) (a8 : T8) (h0 : I a1 a2 a3 a4 a5 a6 a7 a8) (step : ∀ (a1 : T1) (a2 : T2) (a3 : T3) (a4 : T4) (a5 : T5) (a6 : T6) (a7 : T7) (a8 : T8), I a1 a2 a3 a4 a5 a6 a7 a8 → ∀ (again : T1 → T2 → T3 → T4 → T5 → T6 → T7 → T8 → Prop), (∀ (b1 : T1) (b2 : T2) (b3 : T3) (b4 : T4) (b5 : T5) (b6 : T6) (b7 : T7) (b8 : T8), I b1 b2 b3 b4 b5 b6 b7 b8 → μ b1 b2 b3 b4 b5 b6 b7 b8 < μ a1 a2 a3 a4 a5 a6 a7 a8 → again b1 b2 b3 b4 b5 b6 b7 b8) → body again a1 a2 a3 a4 a5 a6 a7 a8) : Lz8 body a1 a2 a3 a4 a5 a6 a7 a8 := by
  have key : ∀ (n : Nat) (a1 : T1) (a2 : T2) (a3 : T3) (a4 : T4) (a5 : T5) (a6 : T6) (a7 : T7) (a8 : T8), I a1 a2 a3 a4 a5 a6 a7 a8 → μ a1 a2 a3 a4 a5 a6 a7 a8 < n → lz8 body n a1 a2 a3 a4 a5 a6 a7 a8 := by
    intro n
    induction n with
    | zero => intro a1 a2 a3 a4 a5 a6 a7 a8 _ h; exact absurd h (Nat.not_lt_zero _)
    | succ n ih => intro a1 a2 a3 a4 a5 a6 a7 a8 hI hm; exact step a1 a2 a3 a4 a5 a6 a7 a8 hI (lz8 body n) (fun b1 b2 b3 b4 b5 b6 b7 b8 hI2 hm2 => ih b1 b2 b3 b4 b5 b6 b7 b8 hI2 (Nat.lt_of_lt_of_le hm2 (Nat.le_of_lt_succ hm)))
  exact ⟨_, key (μ a1 a2 a3 a4 a5 a6 a7 a8 + 1) a1 a2 a3 a4 a5 a6 a7 a8 h0 (Nat.lt_succ_self _)⟩
def lz9 {T1 T2 T3 T4 T5 T6 T7 T8 T9 : Type} (body : (T1 → T2 → T3 → T4 → T5 → T6 → T7 → T8 → T9 → Prop) → T1 → T2 → T3 → T4 → T5 → T6 → T7 → T8 → T9 → Prop) : Nat → T1 → T2 → T3 → T4 → T5 → T6 → T7 → T8 → T9 → Prop
  | 0 => fun _ _ _ _ _ _ _ _ _ => False
  | n + 1 => body (lz9 body n)
def Lz9 {T1 T2 T3 T4 T5 T6 T7 T8 T9 : Type} (body : (T1 → T2 → T3 → T4 → T5 → T6 → T7 → T8 → T9 → Prop) → T1 → T2 → T3 → T4 → T5 → T6 → T7 → T8 → T9 → Prop) (a1 : T1) (a2 : T2) (a3 : T3) (a4 : T4) (a5 : T5) (a6 : T6) (a7 : T7) (a8 : T8) (a9 : T9) : Prop := ∃ n, lz9 body n a1 a2 a3 a4 a5 a6 a7 a8 a9
theorem Lz9_go {T1 T2 T3 T4 T5 T6 T7 T8 T9 : Type} {body : (T1 → T2 → T3 → T4 → T5 → T6 → T7 → T8 → T9 → Prop) → T1 → T2 → T3 → T4 → T5 → T6 → T7 → T8 → T9 → Prop} {a1 : T1} {a2 : T2} {a3 : T3} {a4 : T4} {a5 : T5} {a6 : T6} {a7 : T7} {a8 : T8} {a9 : T9} {Gg : T1 → T2 → T3 → T4 → T5 → T6 → T7 → T8 → T9 → Prop} (h : Lz9 body a1 a2 a3 a4 a5 a6 a7 a8 a9) (step : ∀ (again : T1 → T2 → T3 → T4 → T5 → T6 → T7 → T8 → T9 → Prop), (∀ (a1 : T1) (a2 : T2) (a3 : T3) (a4 : T4) (a5 : T5) (a6 : T6) (a7 : T7) (a8 : T8) (a9 : T9), again a1 a2 a3 a4 a5 a6 a7 a8 a9 → Gg a1 a2 a3 a4 a5 a6 a7 a8 a9) → ∀ (a1 : T1) (a2 : T2) (a3 : T3) (a4 : T4) (a5 : T5) (a6 : T6) (a7 : T7) (a8 : T8) (a9 : T9), body again a1 a2 a3 a4 a5 a6 a7 a8 a9 → Gg a1 a2 a3 a4 a5 a6 a7 a8 a9) : Gg a1 a2 a3 a4 a5 a6 a7 a8 a9 := by
  obtain ⟨n, h⟩ := h
  induction n generalizing a1 a2 a3 a4 a5 a6 a7 a8 a9 with
  | zero => exact h.elim
  | succ n ih => exact step (lz9 body n) (fun a1 a2 a3 a4 a5 a6 a7 a8 a9 h => ih h) a1 a2 a3 a4 a5 a6 a7 a8 a9 h
theorem Lz9_gr {T1 T2 T3 T4 T5 T6 T7 T8 T9 : Type} {body : (T1 → T2 → T3 → T4 → T5 → T6 → T7 → T8 → T9 → Prop) → T1 → T2 → T3 → T4 → T5 → T6 → T7 → T8 → T9 → Prop} {Gg : T1 → T2 → T3 → T4 → T5 → T6 → T7 → T8 → T9 → Prop} (step : ∀ (again : T1 → T2 → T3 → T4 → T5 → T6 → T7 → T8 → T9 → Prop), (∀ (a1 : T1) (a2 : T2) (a3 : T3) (a4 : T4) (a5 : T5) (a6 : T6) (a7 : T7) (a8 : T8) (a9 : T9), again a1 a2 a3 a4 a5 a6 a7 a8 a9 → Gg a1 a2 a3 a4 a5 a6 a7 a8 a9) → ∀ (a1 : T1) (a2 : T2) (a3 : T3) (a4 : T4) (a5 : T5) (a6 : T6) (a7 : T7) (a8 : T8) (a9 : T9), body again a1 a2 a3 a4 a5 a6 a7 a8 a9 → Gg a1 a2 a3 a4 a5 a6 a7 a8 a9) : ∀ (a1 : T1) (a2 : T2) (a3 : T3) (a4 : T4) (a5 : T5) (a6 : T6) (a7 : T7) (a8 : T8) (a9 : T9), Lz9 body a1 a2 a3 a4 a5 a6 a7 a8 a9 → Gg a1 a2 a3 a4 a5 a6 a7 a8 a9 := fun a1 a2 a3 a4 a5 a6 a7 a8 a9 h => Lz9_go h step
theorem Lz9_by {T1 T2 T3 T4 T5 T6 T7 T8 T9 : Type} {body : (T1 → T2 → T3 → T4 → T5 → T6 → T7 → T8 → T9 → Prop) → T1 → T2 → T3 → T4 → T5 → T6 → T7 → T8 → T9 → Prop} (I : T1 → T2 → T3 → T4 → T5 → T6 → T7 → T8 → T9 → Prop) (μ : T1 → T2 → T3 → T4 → T5 → T6 → T7 → T8 → T9 → Nat) (a1 : T1) (a2 : T2) (a3 : T3) (a4 : T4) (a5 : T5) (a6 : T6) (a7 : T7) (a8 : T8) (a9 : T9) (h0 : I a1 a2 a3 a4 a5 a6 a7 a8 a9) (step : ∀ (a1 : T1) (a2 : T2) (a3 : T3) (a4 : T4) (a5 : T5) (a6 : T6) (a7 : T7) (a8 : T8) (a9 : T9), I a1 a2 a3 a4 a5 a6 a7 a8 a9 → ∀ (again : T1 → T2 → T3 → T4 → T5 → T6 → T7 → T8 → T9 → Prop), (∀ (b1 : T1) (b2 : T2) (b3 : T3) (b4 : T4) (b5 : T5) (b6 : T6) (b7 : T7) (b8 : T8) (b9 : T9), I b1 b2 b3 b4 b5 b6 b7 b8 b9 → μ b1 b2 b3 b4 b5 b6 b7 b8 b9 < μ a1 a2 a3 a4 a5 a6 a7 a8 a9 → again b1 b2 b3 b4 b5 b6 b7 b8 b9) → body again a1 a2 a3 a4 a5 a6 a7 a8 a9) : Lz9 body a1 a2 a3 a4 a5 a6 a7 a8 a9 := by
  have key : ∀ (n : Nat) (a1 : T1) (a2 : T2) (a3 : T3) (a4 : T4) (a5 : T5) (a6 : T6) (a7 : T7) (a8 : T8) (a9 : T9), I a1 a2 a3 a4 a5 a6 a7 a8 a9 → μ a1 a2 a3 a4 a5 a6 a7 a8 a9 < n → lz9 body n a1 a2 a3 a4 a5 a6 a7 a8 a9 := by
    intro n
    induction n with
    | zero => intro a1 a2 a3 a4 a5 a6 a7 a8 a9 _ h; exact absurd h (Nat.not_lt_zero _)
    | succ n ih => intro a1 a2 a3 a4 a5 a6 a7 a8 a9 hI hm; exact step a1 a2 a3 a4 a5 a6 a7 a8 a9 hI (lz9 body n) (fun b1 b2 b3 b4 b5 b6 b7 b8 b9 hI2 hm2 => ih b1 b2 b3 b4 b5 b6 b7 b8 b9 hI2 (Nat.lt_of_lt_of_le hm2 (Nat.le_of_lt_succ hm)))
  exact ⟨_, key (μ a1 a2 a3 a4 a5 a6 a7 a8 a9 + 1) a1 a2 a3 a4 a5 a6 a7 a8 a9 h0 (Nat.lt_succ_self _)⟩
def lz10 {T1 T2 T3 T4 T5 T6 T7 T8 T9 T10 : Type} (body : (T1 → T2 → T3 → T4 → T5 → T6 → T7 → T8 → T9 → T10 → Prop) → T1 → T2 → T3 → T4 → T5 → T6 → T7 → T8 → T9 → T10 → Prop) : Nat → T1 → T2 → T3 → T4 → T5 → T6 → T7 → T8 → T9 → T10 → Prop
  | 0 => fun _ _ _ _ _ _ _ _ _ _ => False
  | n + 1 => body (lz10 body n)
def Lz10 {T1 T2 T3 T4 T5 T6 T7 T8 T9 T10 : Type} (body : (T1 → T2 → T3 → T4 → T5 → T6 → T7 → T8 → T9 → T10 → Prop) → T1 → T2 → T3 → T4 → T5 → T6 → T7 → T8 → T9 → T10 → Prop) (a1 : T1) (a2 : T2) (a3 : T3) (a4 : T4) (a5 : T5) (a6 : T6) (a7 : T7) (a8 : T8) (a9 : T9) (a10 : T10) : Prop := ∃ n, lz10 body n a1 a2 a3 a4 a5 a6 a7 a8 a9 a10
theorem Lz10_go {T1 T2 T3 T4 T5 T6 T7 T8 T9 T10 : Type} {body : (T1 → T2 → T3 → T4 → T5 → T6 → T7 → T8 → T9 → T10 → Prop) → T1 → T2 → T3 → T4 → T5 → T6 → T7 → T8 → T9 → T10 → Prop} {a1 : T1} {a2 : T2} {a3 : T3} {a4 : T4} {a5 : T5} {a6 : T6} {a7 : T7} {a8 : T8} {a9 : T9} {a10 : T10} {Gg : T1 → T2 → T3 → T4 → T5 → T6 → T7 → T8 → T9 → T10 → Prop} (h : Lz10 body a1 a2 a3 a4 a5 a6 a7 a8 a9 a10) (step : ∀ (again : T1 → T2 → T3 → T4 → T5 → T6 → T7 → T8 → T9 → T10 → Prop), (∀ (a1 : T1) (a2 : T2) (a3 : T3) (a4 : T4) (a5 : T5) (a6 : T6) (a7 : T7) (a8 : T8) (a9 : T9) (a10 : T10), again a1 a2 a3 a4 a5 a6 a7 a8 a9 a10 → Gg a1 a2 a3 a4 a5 a6 a7 a8 a9 a10) → ∀ (a1 : T1) (a2 : T2) (a3 : T3) (a4 : T4) (a5 : T5) (a6 : T6) (a7 : T7) (a8 : T8) (a9 : T9) (a10 : T10), body again a1 a2 a3 a4 a5 a6 a7 a8 a9 a10 → Gg a1 a2 a3 a4 a5 a6 a7 a8 a9 a10) : Gg a1 a2 a3 a4 a5 a6 a7 a8 a9 a10 := by
  obtain ⟨n, h⟩ := h
  induction n generalizing a1 a2 a3 a4 a5 a6 a7 a8 a9 a10 with
  | zero => exact h.elim
  | succ n ih => exact step (lz10 body n) (fun a1 a2 a3 a4 a5 a6 a7 a8 a9 a10 h => ih h) a1 a2 a3 a4 a5 a6 a7 a8 a9 a10 h
theorem Lz10_gr {T1 T2 T3 T4 T5 T6 T7 T8 T9 T10 : Type} {body : (T1 → T2 → T3 → T4 → T5 → T6 → T7 → T8 → T9 → T10 → Prop) → T1 → T2 → T3 → T4 → T5 → T6 → T7 → T8 → T9 → T10 → Prop} {Gg : T1 → T2 → T3 → T4 → T5 → T6 → T7 → T8 → T9 → T10 → Prop} (step : ∀ (again : T1 → T2 → T3 → T4 → T5 → T6 → T7 → T8 → T9 → T10 → Prop), (∀ (a1 : T1) (a2 : T2) (a3 : T3) (a4 : T4) (a5 : T5) (a6 : T6) (a7 : T7) (a8 : T8) (a9 : T9) (a10 : T10), again a1 a2 a3 a4 a5 a6 a7 a8 a9 a10 → Gg a1 a2 a3 a4 a5 a6 a7 a8 a9 a10) → ∀ (a1 : T1) (a2 : T2) (a3 : T3) (a4 : T4) (a5 : T5) (a6 : T6) (a7 : T7) (a8 : T8) (a9 : T9) (a10 : T10), body again a1 a2 a3 a4 a5 a6 a7 a8 a9 a10 → Gg a1 a2 a3 a4 a5 a6 a7 a8 a9 a10) : ∀ (a1 : T1) (a2 : T2) (a3 : T3) (a4 : T4) (a5 : T5) (a6 : T6) (a7 : T7) (a8 : T8) (a9 : T9) (a10 : T10), Lz10 body a1 a2 a3 a4 a5 a6 a7 a8 a9 a10 → Gg a1 a2 a3 a4 a5 a6 a7 a8 a9 a10 := fun a1 a2 a3 a4 a5 a6 a7 a8 a9 a10 h => Lz10_go h step
theorem Lz10_by {T1 T2 T3 T4 T5 T6 T7 T8 T9 T10 : Type} {body : (T1 → T2 → T3 → T4 → T5 → T6 → T7 → T8 → T9 → T10 → Prop) → T1 → T2 → T3 → T4 → T5 → T6 → T7 → T8 → T9 → T10 → Prop} (I : T1 → T2 → T3 → T4 → T5 → T6 → T7 → T8 → T9 → T10 → Prop) (μ : T1 → T2 → T3 → T4 → T5 → T6 → T7 → T8 → T9 → T10 → Nat) (a1 : T1) (a2 : T2) (a3 : T3) (a4 : T4) (a5 : T5) (a6 : T6) (a7 : T7) (a8 : T8) (a9 : T9) (a10 : T10) (h0 : I a1 a2 a3 a4 a5 a6 a7 a8 a9 a10) (step : ∀ (a1 : T1) (a2 : T2) (a3 : T3) (a4 : T4) (a5 : T5) (a6 : T6) (a7 : T7) (a8 : T8) (a9 : T9) (a10 : T10), I a1 a2 a3 a4 a5 a6 a7 a8 a9 a10 → ∀ (again : T1 → T2 → T3 → T4 → T5 → T6 → T7 → T8 → T9 → T10 → Prop), (∀ (b1 : T1) (b2 : T2) (b3 : T3) (b4 : T4) (b5 : T5) (b6 : T6) (b7 : T7) (b8 : T8) (b9 : T9) (b10 : T10), I b1 b2 b3 b4 b5 b6 b7 b8 b9 b10 → μ b1 b2 b3 b4 b5 b6 b7 b8 b9 b10 < μ a1 a2 a3 a4 a5 a6 a7 a8 a9 a10 → again b1 b2 b3 b4 b5 b6 b7 b8 b9 b10) → body again a1 a2 a3 a4 a5 a6 a7 a8 a9 a10) : Lz10 body a1 a2 a3 a4 a5 a6 a7 a8 a9 a10 := by
  have key : ∀ (n : Nat) (a1 : T1) (a2 : T2) (a3 : T3) (a4 : T4) (a5 : T5) (a6 : T6) (a7 : T7) (a8 : T8) (a9 : T9) (a10 : T10), I a1 a2 a3 a4 a5 a6 a7 a8 a9 a10 → μ a1 a2 a3 a4 a5 a6 a7 a8 a9 a10 < n → lz10 body n a1 a2 a3 a4 a5 a6 a7 a8 a9 a10 := by
    intro n
    induction n with
    | zero => intro a1 a2 a3 a4 a5 a6 a7 a8 a9 a10 _ h; exact absurd h (Nat.not_lt_zero _)
    | succ n ih => intro a1 a2 a3 a4 a5 a6 a7 a8 a9 a10 hI hm; exact step a1 a2 a3 a4 a5 a6 a7 a8 a9 a10 hI (lz10 body n) (fun b1 b2 b3 b4 b5 b6 b7 b8 b9 b10 hI2 hm2 => ih b1 b2 b3 b4 b5 b6 b7 b8 b9 b10 hI2 (Nat.lt_of_lt_of_le hm2 (Nat.le_of_lt_succ hm)))
  exact ⟨_, key (μ a1 a2 a3 a4 a5 a6 a7 a8 a9 a10 + 1) a1 a2 a3 a4 a5 a6 a7 a8 a9 a10 h0 (Nat.lt_succ_self _)⟩
def lz11 {T1 T2 T3 T4 T5 T6 T7 T8 T9 T10 T11 : Type} (body : (T1 → T2 → T3 → T4 → T5 → T6 → T7 → T8 → T9 → T10 → T11 → Prop) → T1 → T2 → T3 → T4 → T5 → T6 → T7 → T8 → T9 → T10 → T11 → Prop) : Nat → T1 → T2 → T3 → T4 → T5 → T6 → T7 → T8 → T9 → T10 → T11 → Prop
  | 0 => fun _ _ _ _ _ _ _ _ _ _ _ => False
  | n + 1 => body (lz11 body n)
def Lz11 {T1 T2 T3 T4 T5 T6 T7 T8 T9 T10 T11 : Type} (body : (T1 → T2 → T3 → T4 → T5 → T6 → T7 → T8 → T9 → T10 → T11 → Prop) → T1 → T2 → T3 → T4 → T5 → T6 → T7 → T8 → T9 → T10 → T11 → Prop) (a1 : T1) (a2 : T2) (a3 : T3) (a4 : T4) (a5 : T5) (a6 : T6) (a7 : T7) (a8 : T8) (a9 : T9) (a10 : T10) (a11 : T11) : Prop := ∃ n, lz11 body n a1 a2 a3 a4 a5 a6 a7 a8 a9 a10 a11
theorem Lz11_go {T1 T2 T3 T4 T5 T6 T7 T8 T9 T10 T11 : Type} {body : (T1 → T2 → T3 → T4 → T5 → T6 → T7 → T8 → T9 → T10 → T11 → Prop) → T1 → T2 → T3 → T4 → T5 → T6 → T7 → T8 → T9 → T10 → T11 → Prop} {a1 : T1} {a2 : T2} {a3 : T3} {a4 : T4} {a5 : T5} {a6 : T6} {a7 : T7} {a8 : T8} {a9 : T9} {a10 : T10} {a11 : T11} {Gg : T1 → T2 → T3 → T4 → T5 → T6 → T7 → T8 → T9 → T10 → T11 → Prop} (h : Lz11 body a1 a2 a3 a4 a5 a6 a7 a8 a9 a10 a11) (step : ∀ (again : T1 → T2 → T3 → T4 → T5 → T6 → T7 → T8 → T9 → T10 → T11 → Prop), (∀ (a1 : T1) (a2 : T2) (a3 : T3) (a4 : T4) (a5 : T5) (a6 : T6) (a7 : T7) (a8 : T8) (a9 : T9) (a10 : T10) (a11 : T11), again a1 a2 a3 a4 a5 a6 a7 a8 a9 a10 a11 → Gg a1 a2 a3 a4 a5 a6 a7 a8 a9 a10 a11) → ∀ (a1 : T1) (a2 : T2) (a3 : T3) (a4 : T4) (a5 : T5) (a6 : T6) (a7 : T7) (a8 : T8) (a9 : T9) (a10 : T10) (a11 : T11), body again a1 a2 a3 a4 a5 a6 a7 a8 a9 a10 a11 → Gg a1 a2 a3 a4 a5 a6 a7 a8 a9 a10 a11) : Gg a1 a2 a3 a4 a5 a6 a7 a8 a9 a10 a11 := by
  obtain ⟨n, h⟩ := h
  induction n generalizing a1 a2 a3 a4 a5 a6 a7 a8 a9 a10 a11 with
  | zero => exact h.elim
  | succ n ih => exact step (lz11 body n) (fun a1 a2 a3 a4 a5 a6 a7 a8 a9 a10 a11 h => ih h) a1 a2 a3 a4 a5 a6 a7 a8 a9 a10 a11 h
theorem Lz11_gr {T1 T2 T3 T4 T5 T6 T7 T8 T9 T10 T11 : Type} {body : (T1 → T2 → T3 → T4 → T5 → T6 → T7 → T8 → T9 → T10 → T11 → Prop) → T1 → T2 → T3 → T4 → T5 → T6 → T7 → T8 → T9 → T10 → T11 → Prop} {Gg : T1 → T2 → T3 → T4 → T5 → T6 → T7 → T8 → T9 → T10 → T11 → Prop} (step : ∀ (again : T1 → T2 → T3 → T4 → T5 → T6 → T7 → T8 → T9 → T10 → T11 → Prop), (∀ (a1 : T1) (a2 : T2) (a3 : T3) (a4 : T4) (a5 : T5) (a6 : T6) (a7 : T7) (a8 : T8) (a9 : T9) (a10 : T10) (a11 : T11), again a1 a2 a3 a4 a5 a6 a7 a8 a9 a10 a11 → Gg a1 a2 a3 a4 a5 a6 a7 a8 a9 a10 a11) → ∀ (a1 : T1) (a2 : T2) (a3 : T3) (a4 : T4) (a5 : T5) (a6 : T6) (a7 : T7) (a8 : T8) (a9 : T9) (a10 : T10) (a11 : T11), body again a1 a2 a3 a4 a5 a6 a7 a8 a9 a10 a11 → Gg a1 a2 a3 a4 a5 a6 a7 a8 a9 a10 a11) : ∀ (a1 : T1) (a2 : T2) (a3 : T3) (a4 : T4) (a5 : T5) (a6 : T6) (a7 : T7) (a8 : T8) (a9 : T9) (a10 : T10) (a11 : T11), Lz11 body a1 a2 a3 a4 a5 a6 a7 a8 a9 a10 a11 → Gg a1 a2 a3 a4 a5 a6 a7 a8 a9 a10 a11 := fun a1 a2 a3 a4 a5 a6 a7 a8 a9 a10 a11 h => Lz11_go h step
theorem Lz11_by {T1 T2 T3 T4 T5 T6 T7 T8 T9 T10 T11 : Type} {body : (T1 → T2 → T3 → T4 → T5 → T6 → T7 → T8 → T9 → T10 → T11 → Prop) → T1 → T2 → T3 → T4 → T5 → T6 → T7 → T8 → T9 → T10 → T11 → Prop} (I : T1 → T2 → T3 → T4 → T5 → T6 → T7 → T8 → T9 → T10 → T11 → Prop) (μ : T1 → T2 → T3 → T4 → T5 → T6 → T7 → T8 → T9 → T10 → T11 → Nat) (a1 : T1) (a2 : T2) (a3 : T3) (a4 : T4) (a5 : T5) (a6 : T6) (a7 : T7) (a8 : T8) (a9 : T9) (a10 : T10) (a11 : T11) (h0 : I a1 a2 a3 a4 a5 a6 a7 a8 a9 a10 a11) (step : ∀ (a1 : T1) (a2 : T2) (a3 : T3) (a4 : T4) (a5 : T5) (a6 : T6) (a7 : T7) (a8 : T8) (a9 : T9) (a10 : T10) (a11 : T11), I a1 a2 a3 a4 a5 a6 a7 a8 a9 a10 a11 → ∀ (again : T1 → T2 → T3 → T4 → T5 → T6 → T7 → T8 → T9 → T10 → T11 → Prop), (∀ (b1 : T1) (b2 : T2) (b3 : T3) (b4 : T4) (b5 : T5) (b6 : T6) (b7 : T7) (b8 : T8) (b9 : T9) (b10 : T10) (b11 : T11), I b1 b2 b3 b4 b5 b6 b7 b8 b9 b10 b11 → μ b1 b2 b3 b4 b5 b6 b7 b8 b9 b10 b11 < μ a1 a2 a3 a4 a5 a6 a7 a8 a9 a10 a11 → again b1 b2 b3 b4 b5 b6 b7 b8 b9 b10 b11) → body again a1 a2 a3 a4 a5 a6 a7 a8 a9 a10 a11) : Lz11 body a1 a2 a3 a4 a5 a6 a7 a8 a9 a10 a11 := by
  have key : ∀ (n : Nat) (a1 : T1) (a2 : T2) (a3 : T3) (a4 : T4) (a5 : T5) (a6 : T6) (a7 : T7) (a8 : T8) (a9 : T9) (a10 : T10) (a11 : T11), I a1 a2 a3 a4 a5 a6 a7 a8 a9 a10 a11 → μ a1 a2 a3 a4 a5 a6 a7 a8 a9 a10 a11 < n → lz11 body n a1 a2 a3 a4 a5 a6 a7 a8 a9 a10 a11 := by
    intro n
    induction n with
    | zero => intro a1 a2 a3 a4 a5 a6 a7 a8 a9 a10 a11 _ h; exact absurd h (Nat.not_lt_zero _)
    | succ n ih => intro a1 a2 a3 a4 a5 a6 a7 a8 a9 a10 a11 hI hm; exact step a1 a2 a3 a4 a5 a6 a7 a8 a9 a10 a11 hI (lz11 body n) (fun b1 b2 b3 b4 b5 b6 b7 b8 b9 b10 b11 hI2 hm2 => ih b1 b2 b3 b4 b5 b6 b7 b8 b9 b10 b11 hI2 (Nat.lt_of_lt_of_le hm2 (Nat.le_of_lt_succ hm)))
  exact ⟨_, key (μ a1 a2 a3 a4 a5 a6 a7 a8 a9 a10 a11 + 1) a1 a2 a3 a4 a5 a6 a7 a8 a9 a10 a11 h0 (Nat.lt_succ_self _)⟩
def lz12 {T1 T2 T3 T4 T5 T6 T7 T8 T9 T10 T11 T12 : Type} (body : (T1 → T2 → T3 → T4 → T5 → T6 → T7 → T8 → T9 → T10 → T11 → T12 → Prop) → T1 → T2 → T3 → T4 → T5 → T6 → T7 → T8 → T9 → T10 → T11 → T12 → Prop) : Nat → T1 → T2 → T3 → T4 → T5 → T6 → T7 → T8 → T9 → T10 → T11 → T12 → Prop
  | 0 => fun _ _ _ _ _ _ _ _ _ _ _ _ => False
  | n + 1 => body (lz12 body n)
def Lz12 {T1 T2 T3 T4 T5 T6 T7 T8 T9 T10 T11 T12 : Type} (body : (T1 → T2 → T3 → T4 → T5 → T6 → T7 → T8 → T9 → T10 → T11 → T12 → Prop) → T1 → T2 → T3 → T4 → T5 → T6 → T7 → T8 → T9 → T10 → T11 → T12 → Prop) (a1 : T1) (a2 : T2) (a3 : T3) (a4 : T4) (a5 : T5) (a6 : T6) (a7 : T7) (a8 : T8) (a9 : T9) (a10 : T10) (a11 : T11) (a12 : T12) : Prop := ∃ n, lz12 body n a1 a2 a3 a4 a5 a6 a7 a8 a9 a10 a11 a12
theorem Lz12_go {T1 T2 T3 T4 T5 T6 T7 T8 T9 T10 T11 T12 : Type} {body : (T1 → T2 → T3 → T4 → T5 → T6 → T7 → T8 → T9 → T10 → T11 → T12 → Prop) → T1 → T2 → T3 → T4 → T5 → T6 → T7 → T8 → T9 → T10 → T11 → T12 → Prop} {a1 : T1} {a2 : T2} {a3 : T3} {a4 : T4} {a5 : T5} {a6 : T6} {a7 : T7} {a8 : T8} {a9 : T9} {a10 : T10} {a11 : T11} {a12 : T12} {Gg : T1 → T2 → T3 → T4 → T5 → T6 → T7 → T8 → T9 → T10 → T11 → T12 → Prop} (h : Lz12 body a1 a2 a3 a4 a5 a6 a7 a8 a9 a10 a11 a12) (step : ∀ (again : T1 → T2 → T3 → T4 → T5 → T6 → T7 → T8 → T9 → T10 → T11 → T12 → Prop), (∀ (a1 : T1) (a2 : T2) (a3 : T3) (a4 : T4) (a5 : T5) (a6 : T6) (a7 : T7) (a8 : T8) (a9 : T9) (a10 : T10) (a11 : T11) (a12 : T12), again a1 a2 a3 a4 a5 a6 a7 a8 a9 a10 a11 a12 → Gg a1 a2 a3 a4 a5 a6 a7 a8 a9 a10 a11 a12) → ∀ (a1 : T1) (a2 : T2) (a3 : T3) (a4 : T4) (a5 : T5) (a6 : T6) (a7 : T7) (a8 : T8) (a9 : T9) (a10 : T10) (a11 : T11) (a12 : T12), body again a1 a2 a3 a4 a5 a6 a7 a8 a9 a10 a11 a12 → Gg a1 a2 a3 a4 a5 a6 a7 a8 a9 a10 a11 a12) : Gg a1 a2 a3 a4 a5 a6 a7 a8 a9 a10 a11 a12 := by
  obtain ⟨n, h⟩ := h
  induction n generalizing a1 a2 a3 a4 a5 a6 a7 a8 a9 a10 a11 a12 with
  | zero => exact h.elim
  | succ n ih => exact step (lz12 body n) (fun a1 a2 a3 a4 a5 a6 a7 a8 a9 a10 a11 a12 h => ih h) a1 a2 a3 a4 a5 a6 a7 a8 a9 a10 a11 a12 h
theorem Lz12_gr {T1 T2 T3 T4 T5 T6 T7 T8 T9 T10 T11 T12 : Type} {body : (T1 → T2 → T3 → T4 → T5 → T6 → T7 → T8 → T9 → T10 → T11 → T12 → Prop) → T1 → T2 → T3 → T4 → T5 → T6 → T7 → T8 → T9 → T10 → T11 → T12 → Prop} {Gg : T1 → T2 → T3 → T4 → T5 → T6 → T7 → T8 → T9 → T10 → T11 → T12 → Prop} (step : ∀ (again : T1 → T2 → T3 → T4 → T5 → T6 → T7 → T8 → T9 → T10 → T11 → T12 → Prop), (∀ (a1 : T1) (a2 : T2) (a3 : T3) (a4 : T4) (a5 : T5) (a6 : T6) (a7 : T7) (a8 : T8) (a9 : T9) (a10 : T10) (a11 : T11) (a12 : T12), again a1 a2 a3 a4 a5 a6 a7 a8 a9 a10 a11 a12 → Gg a1 a2 a3 a4 a5 a6 a7 a8 a9 a10 a11 a12) → ∀ (a1 : T1) (a2 : T2) (a3 : T3) (a4 : T4) (a5 : T5) (a6 : T6) (a7 : T7) (a8 : T8) (a9 : T9) (a10 : T10) (a11 : T11) (a12 : T12), body again a1 a2 a3 a4 a5 a6 a7 a8 a9 a10 a11 a12 → Gg a1 a2 a3 a4 a5 a6 a7 a8 a9 a10 a11 a12) : ∀ (a1 : T1) (a2 : T2) (a3 : T3) (a4 : T4) (a5 : T5) (a6 : T6) (a7 : T7) (a8 : T8) (a9 : T9) (a10 : T10) (a11 : T11) (a12 : T12), Lz12 body a1 a2 a3 a4 a5 a6 a7 a8 a9 a10 a11 a12 → Gg a1 a2 a3 a4 a5 a6 a7 a8 a9 a10 a11 a12 := fun a1 a2 a3 a4 a5 a6 a7 a8 a9 a10 a11 a12 h => Lz12_go h step
theorem Lz12_by {T1 T2 T3 T4 T5 T6 T7 T8 T9 T10 T11 T12 : Type} {body : (T1 → T2 → T3 → T4 → T5 → T6 → T7 → T8 → T9 → T10 → T11 → T12 → Prop) → T1 → T2 → T3 → T4 → T5 → T6 → T7 → T8 → T9 → T10 → T11 → T12 → Prop} (I : T1 → T2 → T3 → T4 → T5 → T6 → T7 → T8 → T9 → T10 → T11 → T12 → Prop) (μ : T1 → T2 → T3 → T4 → T5 → T6 → T7 → T8 → T9 → T10 → T11 → T12 → Nat) (a1 : T1) (a2 : T2) (a3 : T3) (a4 : T4) (a5 : T5) (a6 : T6) (a7 : T7) (a8 : T8) (a9 : T9) (a10 : T10) (a11 : T11) (a12 : T12) (h0 : I a1 a2 a3 a4 a5 a6 a7 a8 a9 a10 a11 a12) (step : ∀ (a1 : T1) (a2 : T2) (a3 : T3) (a4 : T4) (a5 : T5) (a6 : T6) (a7 : T7) (a8 : T8) (a9 : T9) (a10 : T10) (a11 : T11) (a12 : T12), I a1 a2 a3 a4 a5 a6 a7 a8 a9 a10 a11 a12 → ∀ (again : T1 → T2 → T3 → T4 → T5 → T6 → T7 → T8 → T9 → T10 → T11 → T12 → Prop), (∀ (b1 : T1) (b2 : T2) (b3 : T3) (b4 : T4) (b5 : T5) (b6 : T6) (b7 : T7) (b8 : T8) (b9 : T9) (b10 : T10) (b11 : T11) (b12 : T12), I b1 b2 b3 b4 b5 b6 b7 b8 b9 b10 b11 b12 → μ b1 b2 b3 b4 b5 b6 b7 b8 b9 b10 b11 b12 < μ a1 a2 a3 a4 a5 a6 a7 a8 a9 a10 a11 a12 → again b1 b2 b3 b4 b5 b6 b7 b8 b9 b10 b11 b12) → body again a1 a2 a3 a4 a5 a6 a7 a8 a9 a10 a11 a12) : Lz12 body a1 a2 a3 a4 a5 a6 a7 a8 a9 a10 a11 a12 := by
  have key : ∀ (n : Nat) (a1 : T1) (a2 : T2) (a3 : T3) (a4 : T4) (a5 : T5) (a6 : T6) (a7 : T7) (a8 : T8) (a9 : T9) (a10 : T10) (a11 : T11) (a12 : T12), I a1 a2 a3 a4 a5 a6 a7 a8 a9 a10 a11 a12 → μ a1 a2 a3 a4 a5 a6 a7 a8 a9 a10 a11 a12 < n → lz12 body n a1 a2 a3 a4 a5 a6 a7 a8 a9 a10 a11 a12 := by
    intro n
    induction n with
    | zero => intro a1 a2 a3 a4 a5 a6 a7 a8 a9 a10 a11 a12 _ h; exact absurd h (Nat.not_lt_zero _)
    | succ n ih => intro a1 a2 a3 a4 a5 a6 a7 a8 a9 a10 a11 a12 hI hm; exact step a1 a2 a3 a4 a5 a6 a7 a8 a9 a10 a11 a12 hI (lz12 body n) (fun b1 b2 b3 b4 b5 b6 b7 b8 b9 b10 b11 b12 hI2 hm2 => ih b1 b2 b3 b4 b5 b6 b7 b8 b9 b10 b11 b12 hI2 (Nat.lt_of_lt_of_le hm2 (Nat.le_of_lt_succ hm)))
  exact ⟨_, key (μ a1 a2 a3 a4 a5 a6 a7 a8 a9 a10 a11 a12 + 1) a1 a2 a3 a4 a5 a6 a7 a8 a9 a10 a11 a12 h0 (Nat.lt_succ_self _)⟩
def lz13 {T1 T2 T3 T4 T5 T6 T7 T8 T9 T10 T11 T12 T13 : Type} (body : (T1 → T2 → T3 → T4 → T5 → T6 → T7 → T8 → T9 → T10 → T11 → T12 → T13 → Prop) → T1 → T2 → T3 → T4 → T5 → T6 → T7 → T8 → T9 → T10 → T11 → T12 → T13 → Prop) : Nat → T1 → T2 → T3 → T4 → T5 → T6 → T7 → T8 → T9 → T10 → T11 → T12 → T13 → Prop
  | 0 => fun _ _ _ _ _ _ _ _ _ _ _ _ _ => False
  | n + 1 => body (lz13 body n)
def Lz13 {T1 T2 T3 T4 T5 T6 T7 T8 T9 T10 T11 T12 T13 : Type} (body : (T1 → T2 → T3 → T4 → T5 → T6 → T7 → T8 → T9 → T10 → T11 → T12 → T13 → Prop) → T1 → T2 → T3 → T4 → T5 → T6 → T7 → T8 → T9 → T10 → T11 → T12 → T13 → Prop) (a1 : T1) (a2 : T2) (a3 : T3) (a4 : T4) (a5 : T5) (a6 : T6) (a7 : T7) (a8 : T8) (a9 : T9) (a10 : T10) (a11 : T11) (a12 : T12) (a13 : T13) : Prop := ∃ n, lz13 body n a1 a2 a3 a4 a5 a6 a7 a8 a9 a10 a11 a12 a13
theorem Lz13_go {T1 T2 T3 T4 T5 T6 T7 T8 T9 T10 T11 T12 T13 : Type} {body : (T1 → T2 → T3 → T4 → T5 → T6 → T7 → T8 → T9 → T10 → T11 → T12 → T13 → Prop) → T1 → T2 → T3 → T4 → T5 → T6 → T7 → T8 → T9 → T10 → T11 → T12 → T13 → Prop} {a1 : T1} {a2 : T2} {a3 : T3} {a4 : T4} {a5 : T5} {a6 : T6} {a7 : T7} {a8 : T8} {a9 : T9} {a10 : T10} {a11 : T11} {a12 : T12} {a13 : T13} {Gg : T1 → T2 → T3 → T4 → T5 → T6 → T7 → T8 → T9 → T10 → T11 → T12 → T13 → Prop} (h : Lz13 body a1 a2 a3 a4 a5 a6 a7 a8 a9 a10 a11 a12 a13) (step : ∀ (again : T1 → T2 → T3 → T4 → T5 → T6 → T7 → T8 → T9 → T10 → T11 → T12 → T13 → Prop), (∀ (a1 : T1) (a2 : T2) (a3 : T3) (a4 : T4) (a5 : T5) (a6 : T6) (a7 : T7) (a8 : T8) (a9 : T9) (a10 : T10) (a11 : T11) (a12 : T12) (a13 : T13), again a1 a2 a3 a4 a5 a6 a7 a8 a9 a10 a11 a12 a13 → Gg a1 a2 a3 a4 a5 a6 a7 a8 a9 a10 a11 a12 a13) → ∀ (a1 : T1) (a2 : T2) (a3 : T3) (a4 : T4) (a5 : T5) (a6 : T6) (a7 : T7) (a8 : T8) (a9 : T9) (a10 : T10) (a11 : T11) (a12 : T12) (a13 : T13), body again a1 a2 a3 a4 a5 a6 a7 a8 a9 a10 a11 a12 a13 → Gg a1 a2 a3 a4 a5 a6 a7 a8 a9 a10 a11 a12 a13) : Gg a1 a2 a3 a4 a5 a6 a7 a8 a9 a10 a11 a12 a13 := by
  obtain ⟨n, h⟩ := h
  induction n generalizing a1 a2 a3 a4 a5 a6 a7 a8 a9 a10 a11 a12 a13 with
  | zero => exact h.elim
  | succ n ih => exact step (lz13 body n) (fun a1 a2 a3 a4 a5 a6 a7 a8 a9 a10 a11 a12 a13 h => ih h) a1 a2 a3 a4 a5 a6 a7 a8 a9 a10 a11 a12 a13 h
theorem Lz13_gr {T1 T2 T3 T4 T5 T6 T7 T8 T9 T10 T11 T12 T13 : Type} {body : (T1 → T2 → T3 → T4 → T5 → T6 → T7 → T8 → T9 → T10 → T11 → T12 → T13 → Prop) → T1 → T2 → T3 → T4 → T5 → T6 → T7 → T8 → T9 → T10 → T11 → T12 → T13 → Prop} {Gg : T1 → T2 → T3 → T4 → T5 → T6 → T7 → T8 → T9 → T10 → T11 → T12 → T13 → Prop} (step : ∀ (again : T1 → T2 → T3 → T4 → T5 → T6 → T7 → T8 → T9 → T10 → T11 → T12 → T13 → Prop), (∀ (a1 : T1) (a2 : T2) (a3 : T3) (a4 : T4) (a5 : T5) (a6 : T6) (a7 : T7) (a8 : T8) (a9 : T9) (a10 : T10) (a11 : T11) (a12 : T12) (a13 : T13), again a1 a2 a3 a4 a5 a6 a7 a8 a9 a10 a11 a12 a13 → Gg a1 a2 a3 a4 a5 a6 a7 a8 a9 a10 a11 a12 a13) → ∀ (a1 : T1) (a2 : T2) (a3 : T3) (a4 : T4) (a5 : T5) (a6 : T6) (a7 : T7) (a8 : T8) (a9 : T9) (a10 : T10) (a11 : T11) (a12 : T12) (a13 : T13), body again a1 a2 a3 a4 a5 a6 a7 a8 a9 a10 a11 a12 a13 → Gg a1 a2 a3 a4 a5 a6 a7 a8 a9 a10 a11 a12 a13) : ∀ (a1 : T1) (a2 : T2) (a3 : T3) (a4 : T4) (a5 : T5) (a6 : T6) (a7 : T7) (a8 : T8) (a9 : T9) (a10 : T10) (a11 : T11) (a12 : T12) (a13 : T13), Lz13 body a1 a2 a3 a4 a5 a6 a7 a8 a9 a10 a11 a12 a13 → Gg a1 a2 a3 a4 a5 a6 a7 a8 a9 a10 a11 a12 a13 := fun a1 a2 a3 a4 a5 a6 a7 a8 a9 a10 a11 a12 a13 h => Lz13_go h step
theorem Lz13_by {T1 T2 T3 T4 T5 T6 T7 T8 T9 T10 T11 T12 T13 : Type} {body : (T1 → T2 → T3 → T4 → T5 → T6 → T7 → T8 → T9 → T10 → T11 → T12 → T13 → Prop) → T1 → T2 → T3 → T4 → T5 → T6 → T7 → T8 → T9 → T10 → T11 → T12 → T13 → Prop} (I : T1 → T2 → T3 → T4 → T5 → T6 → T7 → T8 → T9 → T10 → T11 → T12 → T13 → Prop) (μ : T1 → T2 → T3 → T4 → T5 → T6 → T7 → T8 → T9 → T10 → T11 → T12 → T13 → Nat) (a1 : T1) (a2 : T2) (a3 : T3) (a4 : T4) (a5 : T5) (a6 : T6) (a7 : T7) (a8 : T8) (a9 : T9) (a10 : T10) (a11 : T11) (a12 : T12) (a13 : T13) (h0 : I a1 a2 a3 a4 a5 a6 a7 a8 a9 a10 a11 a12 a13) (step : ∀ (a1 : T1) (a2 : T2) (a3 : T3) (a4 : T4) (a5 : T5) (a6 : T6) (a7 : T7) (a8 : T8) (a9 : T9) (a10 : T10) (a11 : T11) (a12 : T12) (a13 : T13), I a1 a2 a3 a4 a5 a6 a7 a8 a9 a10 a11 a12 a13 → ∀ (again : T1 → T2 → T3 → T4 → T5 → T6 → T7 → T8 → T9 → T10 → T11 → T12 → T13 → Prop), (∀ (b1 : T1) (b2 : T2) (b3 : T3) (b4 : T4) (b5 : T5) (b6 : T6) (b7 : T7) (b8 : T8) (b9 : T9) (b10 : T10) (b11 : T11) (b12 : T12) (b13 : T13), I b1 b2 b3 b4 b5 b6 b7 b8 b9 b10 b11 b12 b13 → μ b1 b2 b3 b4 b5 b6 b7 b8 b9 b10 b11 b12 b13 < μ a1 a2 a3 a4 a5 a6 a7 a8 a9 a10 a11 a12 a13 → again b1 b2 b3 b4 b5 b6 b7 b8 b9 b10 b11 b12 b13) → body again a1 a2 a3 a4 a5 a6 a7 a8 a9 a10 a11 a12 a13) : Lz13 body a1 a2 a3 a4 a5 a6 a7 a8 a9 a10 a11 a12 a13 := by
  have key : ∀ (n : Nat) (a1 : T1) (a2 : T2) (a3 : T3) (a4 : T4) (a5 : T5) (a6 : T6) (a7 : T7) (a8 : T8) (a9 : T9) (a10 : T10) (a11 : T11) (a12 : T12) (a13 : T13), I a1 a2 a3 a4 a5 a6 a7 a8 a9 a10 a11 a12 a13 → μ a1 a2 a3 a4 a5 a6 a7 a8 a9 a10 a11 a12 a13 < n → lz13 body n a1 a2 a3 a4 a5 a6 a7 a8 a9 a10 a11 a12 a13 := by
    intro n
    induction n with
    | zero => intro a1 a2 a3 a4 a5 a6 a7 a8 a9 a10 a11 a12 a13 _ h; exact absurd h (Nat.not_lt_zero _)
    | succ n ih => intro a1 a2 a3 a4 a5 a6 a7 a8 a9 a10 a11 a12 a13 hI hm; exact step a1 a2 a3 a4 a5 a6 a7 a8 a9 a10 a11 a12 a13 hI (lz13 body n) (fun b1 b2 b3 b4 b5 b6 b7 b8 b9 b10 b11 b12 b13 hI2 hm2 => ih b1 b2 b3 b4 b5 b6 b7 b8 b9 b10 b11 b12 b13 hI2 (Nat.lt_of_lt_of_le hm2 (Nat.le_of_lt_succ hm)))
  exact ⟨_, key (μ a1 a2 a3 a4 a5 a6 a7 a8 a9 a10 a11 a12 a13 + 1) a1 a2 a3 a4 a5 a6 a7 a8 a9 a10 a11 a12 a13 h0 (Nat.lt_succ_self _)⟩
def lz14 {T1 T2 T3 T4 T5 T6 T7 T8 T9 T10 T11 T12 T13 T14 : Type} (body : (T1 → T2 → T3 → T4 → T5 → T6 → T7 → T8 → T9 → T10 → T11 → T12 → T13 → T14 → Prop) → T1 → T2 → T3 → T4 → T5 → T6 → T7 → T8 → T9 → T10 → T11 → T12 → T13 → T14 → Prop) : Nat → T1 → T2 → T3 → T4 → T5 → T6 → T7 → T8 → T9 → T10 → T11 → T12 → T13 → T14 → Prop
  | 0 => fun _ _ _ _ _ _ _ _ _ _ _ _ _ _ => False
  | n + 1 => body (lz14 body n)
def Lz14 {T1 T2 T3 T4 T5 T6 T7 T8 T9 T10 T11 T12 T13 T14 : Type} (body : (T1 → T2 → T3 → T4 → T5 → T6 → T7 → T8 → T9 → T10 → T11 → T12 → T13 → T14 → Prop) → T1 → T2 → T3 → T4 → T5 → T6 → T7 → T8 → T9 → T10 → T11 → T12 → T13 → T14 → Prop) (a1 : T1) (a2 : T2) (a3 : T3) (a4 : T4) (a5 : T5) (a6 : T6) (a7 : T7) (a8 : T8) (a9 : T9) (a10 : T10) (a11 : T11) (a12 : T12) (a13 : T13) (a14 : T14) : Prop := ∃ n, lz14 body n a1 a2 a3 a4 a5 a6 a7 a8 a9 a10 a11 a12 a13 a14
theorem Lz14_go {T1 T2 T3 T4 T5 T6 T7 T8 T9 T10 T11 T12 T13 T14 : Type} {body : (T1 → T2 → T3 → T4 → T5 → T6 → T7 → T8 → T9 → T10 → T11 → T12 → T13 → T14 → Prop) → T1 → T2 → T3 → T4 → T5 → T6 → T7 → T8 → T9 → T10 → T11 → T12 → T13 → T14 → Prop} {a1 : T1} {a2 : T2} {a3 : T3} {a4 : T4} {a5 : T5} {a6 : T6} {a7 : T7} {a8 : T8} {a9 : T9} {a10 : T10} {a11 : T11} {a12 : T12} {a13 : T13} {a14 : T14} {Gg : T1 → T2 → T3 → T4 → T5 → T6 → T7 → T8 → T9 → T10 → T11 → T12 → T13 → T14 → Prop} (h : Lz14 body a1 a2 a3 a4 a5 a6 a7 a8 a9 a10 a11 a12 a13 a14) (step : ∀ (again : T1 → T2 → T3 → T4 → T5 → T6 → T7 → T8 → T9 → T10 → T11 → T12 → T13 → T14 → Prop), (∀ (a1 : T1) (a2 : T2) (a3 : T3) (a4 : T4) (a5 : T5) (a6 : T6) (a7 : T7) (a8 : T8) (a9 : T9) (a10 : T10) (a11 : T11) (a12 : T12) (a13 : T13) (a14 : T14), again a1 a2 a3 a4 a5 a6 a7 a8 a9 a10 a11 a12 a13 a14 → Gg a1 a2 a3 a4 a5 a6 a7 a8 a9 a10 a11 a12 a13 a14) → ∀ (a1 : T1) (a2 : T2) (a3 : T3) (a4 : T4) (a5 : T5) (a6 : T6) (a7 : T7) (a8 : T8) (a9 : T9) (a10 : T10) (a11 : T11) (a12 : T12) (a13 : T13) (a14 : T14), body again a1 a2 a3 a4 a5 a6 a7 a8 a9 a10 a11 a12 a13 a14 → Gg a1 a2 a3 a4 a5 a6 a7 a8 a9 a10 a11 a12 a13 a14) : Gg a1 a2 a3 a4 a5 a6 a7 a8 a9 a10 a11 a12 a13 a14 := by
  obtain ⟨n, h⟩ := h
  induction n generalizing a1 a2 a3 a4 a5 a6 a7 a8 a9 a10 a11 a12 a13 a14 with
  | zero => exact h.elim
  | succ n ih => exact step (lz14 body n) (fun a1 a2 a3 a4 a5 a6 a7 a8 a9 a10 a11 a12 a13 a14 h => ih h) a1 a2 a3 a4 a5 a6 a7 a8 a9 a10 a11 a12 a13 a14 h
theorem Lz14_gr {T1 T2 T3 T4 T5 T6 T7 T8 T9 T10 T11 T12 T13 T14 : Type} {body : (T1 → T2 → T3 → T4 → T5 → T6 → T7 → T8 → T9 → T10 → T11 → T12 → T13 → T14 → Prop) → T1 → T2 → T3 → T4 → T5 → T6 → T7 → T8 → T9 → T10 → T11 → T12 → T13 → T14 → Prop} {Gg : T1 → T2 → T3 → T4 → T5 → T6 → T7 → T8 → T9 → T10 → T11 → T12 → T13 → T14 → Prop} (step : ∀ (again : T1 → T2 → T3 → T4 → T5 → T6 → T7 → T8 → T9 → T10 → T11 → T12 → T13 → T14 → Prop), (∀ (a1 : T1) (a2 : T2) (a3 : T3) (a4 : T4) (a5 : T5) (a6 : T6) (a7 : T7) (a8 : T8) (a9 : T9) (a10 : T10) (a11 : T11) (a12 : T12) (a13 : T13) (a14 : T14), again a1 a2 a3 a4 a5 a6 a7 a8 a9 a10 a11 a12 a13 a14 → Gg a1 a2 a3 a4 a5 a6 a7 a8 a9 a10 a11 a12 a13 a14) → ∀ (a1 : T1) (a2 : T2) (a3 : T3) (a4 : T4) (a5 : T5) (a6 : T6) (a7 : T7) (a8 : T8) (a9 : T9) (a10 : T10) (a11 : T11) (a12 : T12) (a13 : T13) (a14 : T14), body again a1 a2 a3 a4 a5 a6 a7 a8 a9 a10 a11 a12 a13 a14 → Gg a1 a2 a3 a4 a5 a6 a7 a8 a9 a10 a11 a12 a13 a14) : ∀ (a1 : T1) (a2 : T2) (a3 : T3) (a4 : T4) (a5 : T5) (a6 : T6) (a7 : T7) (a8 : T8) (a9 : T9) (a10 : T10) (a11 : T11) (a12 : T12) (a13 : T13) (a14 : T14), Lz14 body a1 a2 a3 a4 a5 a6 a7 a8 a9 a10 a11 a12 a13 a14 → Gg a1 a2 a3 a4 a5 a6 a7 a8 a9 a10 a11 a12 a13 a14 := fun a1 a2 a3 a4 a5 a6 a7 a8 a9 a10 a11 a12 a13 a14 h => Lz14_go h step
theorem Lz14_by {T1 T2 T3 T4 T5 T6 T7 T8 T9 T10 T11 T12 T13 T14 : Type} {body : (T1 → T2 → T3 → T4 → T5 → T6 → T7 → T8 → T9 → T10 → T11 → T12 → T13 → T14 → Prop) → T1 → T2 → T3 → T4 → T5 → T6 → T7 → T8 → T9 → T10 → T11 → T12 → T13 → T14 → Prop} (I : T1 → T2 → T3 → T4 → T5 → T6 → T7 → T8 → T9 → T10 → T11 → T12 → T13 → T14 → Prop) (μ : T1 → T2 → T3 → T4 → T5 → T6 → T7 → T8 → T9 → T10 → T11 → T12 → T13 → T14 → Nat) (a1 : T1) (a2 : T2) (a3 : T3) (a4 : T4) (a5 : T5) (a6 : T6) (a7 : T7) (a8 : T8) (a9 : T9) (a10 : T10) (a11 : T11) (a12 : T12) (a13 : T13) (a14 : T14) (h0 : I a1 a2 a3 a4 a5 a6 a7 a8 a9 a10 a11 a12 a13 a14) (step : ∀ (a1 : T1) (a2 : T2) (a3 : T3) (a4 : T4) (a5 : T5) (a6 : T6) (a7 : T7) (a8 : T8) (a9 : T9) (a10 : T10) (a11 : T11) (a12 : T12) (a13 : T13) (a14 : T14), I a1 a2 a3 a4 a5 a6 a7 a8 a9 a10 a11 a12 a13 a14 → ∀ (again : T1 → T2 → T3 → T4 → T5 → T6 → T7 → T8 → T9 → T10 → T11 → T12 → T13 → T14 → Prop), (∀ (b1 : T1) (b2 : T2) (b3 : T3) (b4 : T4) (b5 : T5) (b6 : T6) (b7 : T7) (b8 : T8) (b9 : T9) (b10 : T10) (b11 : T11) (b12 : T12) (b13 : T13) (b14 : T14), I b1 b2 b3 b4 b5 b6 b7 b8 b9 b10 b11 b12 b13 b14 → μ b1 b2 b3 b4 b5 b6 b7 b8 b9 b10 b11 b12 b13 b14 < μ a1 a2 a3 a4 a5 a6 a7 a8 a9 a10 a11 a12 a13 a14 → again b1 b2 b3 b4 b5 b6 b7 b8 b9 b10 b11 b12 b13 b14) → body again a1 a2 a3 a4 a5 a6 a7 a8 a9 a10 a11 a12 a13 a14) : Lz14 body a1 a2 a3 a4 a5 a6 a7 a8 a9 a10 a11 a12 a13 a14 := by
  have key : ∀ (n : Nat) (a1 : T1) (a2 : T2) (a3 : T3) (a4 : T4) (a5 : T5) (a6 : T6) (a7 : T7) (a8 : T8) (a9 : T9) (a10 : T10) (a11 : T11) (a12 : T12) (a13 : T13) (a14 : T14), I a1 a2 a3 a4 a5 a6 a7 a8 a9 a10 a11 a12 a13 a14 → μ a1 a2 a3 a4 a5 a6 a7 a8 a9 a10 a11 a12 a13 a14 < n → lz14 body n a1 a2 a3 a4 a5 a6 a7 a8 a9 a10 a11 a12 a13 a14 := by
    intro n
    induction n with
    | zero => intro a1 a2 a3 a4 a5 a6 a7 a8 a9 a10 a11 a12 a13 a14 _ h; exact absurd h (Nat.not_lt_zero _)
    | succ n ih => intro a1 a2 a3 a4 a5 a6 a7 a8 a9 a10 a11 a12 a13 a14 hI hm; exact step a1 a2 a3 a4 a5 a6 a7 a8 a9 a10 a11 a12 a13 a14 hI (lz14 body n) (fun b1 b2 b3 b4 b5 b6 b7 b8 b9 b10 b11 b12 b13 b14 hI2 hm2 => ih b1 b2 b3 b4 b5 b6 b7 b8 b9 b10 b11 b12 b13 b14 hI2 (Nat.lt_of_lt_of_le hm2 (Nat.le_of_lt_succ hm)))
  exact ⟨_, key (μ a1 a2 a3 a4 a5 a6 a7 a8 a9 a10 a11 a12 a13 a14 + 1) a1 a2 a3 a4 a5 a6 a7 a8 a9 a10 a11 a12 a13 a14 h0 (Nat.lt_succ_self _)⟩
def lz15 {T1 T2 T3 T4 T5 T6 T7 T8 T9 T10 T11 T12 T13 T14 T15 : Type} (body : (T1 → T2 → T3 → T4 → T5 → T6 → T7 → T8 → T9 → T10 → T11 → T12 → T13 → T14 → T15 → Prop) → T1 → T2 → T3 → T4 → T5 → T6 → T7 → T8 → T9 → T10 → T11 → T12 → T13 → T14 → T15 → Prop) : Nat → T1 → T2 → T3 → T4 → T5 → T6 → T7 → T8 → T9 → T10 → T11 → T12 → T13 → T14 → T15 → Prop
  | 0 => fun _ _ _ _ _ _ _ _ _ _ _ _ _ _ _ => False
  | n + 1 => body (lz15 body n)
def Lz15 {T1 T2 T3 T4 T5 T6 T7 T8 T9 T10 T11 T12 T13 T14 T15 : Type} (body : (T1 → T2 → T3 → T4 → T5 → T6 → T7 → T8 → T9 → T10 → T11 → T12 → T13 → T14 → T15 → Prop) → T1 → T2 → T3 → T4 → T5 → T6 → T7 → T8 → T9 → T10 → T11 → T12 → T13 → T14 → T15 → Prop) (a1 : T1) (a2 : T2) (a3 : T3) (a4 : T4) (a5 : T5) (a6 : T6) (a7 : T7) (a8 : T8) (a9 : T9) (a10 : T10) (a11 : T11) (a12 : T12) (a13 : T13) (a14 : T14) (a15 : T15) : Prop := ∃ n, lz15 body n a1 a2 a3 a4 a5 a6 a7 a8 a9 a10 a11 a12 a13 a14 a15
theorem Lz15_go {T1 T2 T3 T4 T5 T6 T7 T8 T9 T10 T11 T12 T13 T14 T15 : Type} {body : (T1 → T2 → T3 → T4 → T5 → T6 → T7 → T8 → T9 → T10 → T11 → T12 → T13 → T14 → T15 → Prop) → T1 → T2 → T3 → T4 → T5 → T6 → T7 → T8 → T9 → T10 → T11 → T12 → T13 → T14 → T15 → Prop} {a1 : T1} {a2 : T2} {a3 : T3} {a4 : T4} {a5 : T5} {a6 : T6} {a7 : T7} {a8 : T8} {a9 : T9} {a10 : T10} {a11 : T11} {a12 : T12} {a13 : T13} {a14 : T14} {a15 : T15} {Gg : T1 → T2 → T3 → T4 → T5 → T6 → T7 → T8 → T9 → T10 → T11 → T12 → T13 → T14 → T15 → Prop} (h : Lz15 body a1 a2 a3 a4 a5 a6 a7 a8 a9 a10 a11 a12 a13 a14 a15) (step : ∀ (again : T1 → T2 → T3 → T4 → T5 → T6 → T7 → T8 → T9 → T10 → T11 → T12 → T13 → T14 → T15 → Prop), (∀ (a1 : T1) (a2 : T2) (a3 : T3) (a4 : T4) (a5 : T5) (a6 : T6) (a7 : T7) (a8 : T8) (a9 : T9) (a10 : T10) (a11 : T11) (a12 : T12) (a13 : T13) (a14 : T14) (a15 : T15), again a1 a2 a3 a4 a5 a6 a7 a8 a9 a10 a11 a12 a13 a14 a15 → Gg a1 a2 a3 a4 a5 a6 a7 a8 a9 a10 a11 a12 a13 a14 a15) → ∀ (a1 : T1) (a2 : T2) (a3 : T3) (a4 : T4) (a5 : T5) (a6 : T6) (a7 : T7) (a8 : T8) (a9 : T9) (a10 : T10) (a11 : T11) (a12 : T12) (a13 : T13) (a14 : T14) (a15 : T15), body again a1 a2 a3 a4 a5 a6 a7 a8 a9 a10 a11 a12 a13 a14 a15 → Gg a1 a2 a3 a4 a5 a6 a7 a8 a9 a10 a11 a12 a13 a14 a15) : Gg a1 a2 a3 a4 a5 a6 a7 a8 a9 a10 a11 a12 a13 a14 a15 := by
  obtain ⟨n, h⟩ := h
  induction n generalizing a1 a2 a3 a4 a5 a6 a7 a8 a9 a10 a11 a12 a13 a14 a15 with
  | zero => exact h.elim
  | succ n ih => exact step (lz15 body n) (fun a1 a2 a3 a4 a5 a6 a7 a8 a9 a10 a11 a12 a13 a14 a15 h => ih h) a1 a2 a3 a4 a5 a6 a7 a8 a9 a10 a11 a12 a13 a14 a15 h
theorem Lz15_gr {T1 T2 T3 T4 T5 T6 T7 T8 T9 T10 T11 T12 T13 T14 T15 : Type} {body : (T1 → T2 → T3 → T4 → T5 → T6 → T7 → T8 → T9 → T10 → T11 → T12 → T13 → T14 → T15 → Prop) → T1 → T2 → T3 → T4 → T5 → T6 → T7 → T8 → T9 → T10 → T11 → T12 → T13 → T14 → T15 → Prop} {Gg : T1 → T2 → T3 → T4 → T5 → T6 → T7 → T8 → T9 → T10 → T11 → T12 → T13 → T14 → T15 → Prop} (step : ∀ (again : T1 → T2 → T3 → T4 → T5 → T6 → T7 → T8 → T9 → T10 → T11 → T12 → T13 → T14 → T15 → Prop), (∀ (a1 : T1) (a2 : T2) (a3 : T3) (a4 : T4) (a5 : T5) (a6 : T6) (a7 : T7) (a8 : T8) (a9 : T9) (a10 : T10) (a11 : T11) (a12 : T12) (a13 : T13) (a14 : T14) (a15 : T15), again a1 a2 a3 a4 a5 a6 a7 a8 a9 a10 a11 a12 a13 a14 a15 → Gg a1 a2 a3 a4 a5 a6 a7 a8 a9 a10 a11 a12 a13 a14 a15) → ∀ (a1 : T1) (a2 : T2) (a3 : T3) (a4 : T4) (a5 : T5) (a6 : T6) (a7 : T7) (a8 : T8) (a9 : T9) (a10 : T10) (a11 : T11) (a12 : T12) (a13 : T13) (a14 : T14) (a15 : T15), body again a1 a2 a3 a4 a5 a6 a7 a8 a9 a10 a11 a12 a13 a14 a15 → Gg a1 a2 a3 a4 a5 a6 a7 a8 a9 a10 a11 a12 a13 a14 a15) : ∀ (a1 : T1) (a2 : T2) (a3 : T3) (a4 : T4) (a5 : T5) (a6 : T6) (a7 : T7) (a8 : T8) (a9 : T9) (a10 : T10) (a11 : T11) (a12 : T12) (a13 : T13) (a14 : T14) (a15 : T15), Lz15 body a1 a2 a3 a4 a5 a6 a7 a8 a9 a10 a11 a12 a13 a14 a15 → Gg a1 a2 a3 a4 a5 a6 a7 a8 a9 a10 a11 a12 a13 a14 a15 := fun a1 a2 a3 a4 a5 a6 a7 a8 a9 a10 a11 a12 a13 a14 a15 h => Lz15_go h step
theorem Lz15_by {T1 T2 T3 T4 T5 T6 T7 T8 T9 T10 T11 T12 T13 T14 T15 : Type} {body : (T1 → T2 → T3 → T4 → T5 → T6 → T7 → T8 → T9 → T10 → T11 → T12 → T13 → T14 → T15 → Prop) → T1 → T2 → T3 → T4 → T5 → T6 → T7 → T8 → T9 → T10 → T11 → T12 → T13 → T14 → T15 → Prop} (I : T1 → T2 → T3 → T4 → T5 → T6 → T7 → T8 → T9 → T10 → T11 → T12 → T13 → T14 → T15 → Prop) (μ : T1 → T2 → T3 → T4 → T5 → T6 → T7 → T8 → T9 → T10 → T11 → T12 → T13 → T14 → T15 → Nat) (a1 : T1) (a2 : T2) (a3 : T3) (a4 : T4) (a5 : T5) (a6 : T6) (a7 : T7) (a8 : T8) (a9 : T9) (a10 : T10) (a11 : T11) (a12 : T12) (a13 : T13) (a14 : T14) (a15 : T15) (h0 : I a1 a2 a3 a4 a5 a6 a7 a8 a9 a10 a11 a12 a13 a14 a15) (step : ∀ (a1 : T1) (a2 : T2) (a3 : T3) (a4 : T4) (a5 : T5) (a6 : T6) (a7 : T7) (a8 : T8) (a9 : T9) (a10 : T10) (a11 : T11) (a12 : T12) (a13 : T13) (a14 : T14) (a15 : T15), I a1 a2 a3 a4 a5 a6 a7 a8 a9 a10 a11 a12 a13 a14 a15 → ∀ (again : T1 → T2 → T3 → T4 → T5 → T6 → T7 → T8 → T9 → T10 → T11 → T12 → T13 → T14 → T15 → Prop), (∀ (b1 : T1) (b2 : T2) (b3 : T3) (b4 : T4) (b5 : T5) (b6 : T6) (b7 : T7) (b8 : T8) (b9 : T9) (b10 : T10) (b11 : T11) (b12 : T12) (b13 : T13) (b14 : T14) (b15 : T15), I b1 b2 b3 b4 b5 b6 b7 b8 b9 b10 b11 b12 b13 b14 b15 → μ b1 b2 b3 b4 b5 b6 b7 b8 b9 b10 b11 b12 b13 b14 b15 < μ a1 a2 a3 a4 a5 a6 a7 a8 a9 a10 a11 a12 a13 a14 a15 → again b1 b2 b3 b4 b5 b6 b7 b8 b9 b10 b11 b12 b13 b14 b15) → body again a1 a2 a3 a4 a5 a6 a7 a8 a9 a10 a11 a12 a13 a14 a15) : Lz15 body a1 a2 a3 a4 a5 a6 a7 a8 a9 a10 a11 a12 a13 a14 a15 := by
  have key : ∀ (n : Nat) (a1 : T1) (a2 : T2) (a3 : T3) (a4 : T4) (a5 : T5) (a6 : T6) (a7 : T7) (a8 : T8) (a9 : T9) (a10 : T10) (a11 : T11) (a12 : T12) (a13 : T13) (a14 : T14) (a15 : T15), I a1 a2 a3 a4 a5 a6 a7 a8 a9 a10 a11 a12 a13 a14 a15 → μ a1 a2 a3 a4 a5 a6 a7 a8 a9 a10 a11 a12 a13 a14 a15 < n → lz15 body n a1 a2 a3 a4 a5 a6 a7 a8 a9 a10 a11 a12 a13 a14 a15 := by
    intro n
    induction n with
    | zero => intro a1 a2 a3 a4 a5 a6 a7 a8 a9 a10 a11 a12 a13 a14 a15 _ h; exact absurd h (Nat.not_lt_zero _)
    | succ n ih => intro a1 a2 a3 a4 a5 a6 a7 a8 a9 a10 a11 a12 a13 a14 a15 hI hm; exact step a1 a2 a3 a4 a5 a6 a7 a8 a9 a10 a11 a12 a13 a14 a15 hI (lz15 body n) (fun b1 b2 b3 b4 b5 b6 b7 b8 b9 b10 b11 b12 b13 b14 b15 hI2 hm2 => ih b1 b2 b3 b4 b5 b6 b7 b8 b9 b10 b11 b12 b13 b14 b15 hI2 (Nat.lt_of_lt_of_le hm2 (Nat.le_of_lt_succ hm)))
  exact ⟨_, key (μ a1 a2 a3 a4 a5 a6 a7 a8 a9 a10 a11 a12 a13 a14 a15 + 1) a1 a2 a3 a4 a5 a6 a7 a8 a9 a10 a11 a12 a13 a14 a15 h0 (Nat.lt_succ_self _)⟩
def lz16 {T1 T2 T3 T4 T5 T6 T7 T8 T9 T10 T11 T12 T13 T14 T15 T16 : Type} (body : (T1 → T2 → T3 → T4 → T5 → T6 → T7 → T8 → T9 → T10 → T11 → T12 → T13 → T14 → T15 → T16 → Prop) → T1 → T2 → T3 → T4 → T5 → T6 → T7 → T8 → T9 → T10 → T11 → T12 → T13 → T14 → T15 → T16 → Prop) : Nat → T1 → T2 → T3 → T4 → T5 → T6 → T7 → T8 → T9 → T10 → T11 → T12 → T13 → T14 → T15 → T16 → Prop
  | 0 => fun _ _ _ _ _ _ _ _ _ _ _ _ _ _ _ _ => False
  | n + 1 => body (lz16 body n)
def Lz16 {T1 T2 T3 T4 T5 T6 T7 T8 T9 T10 T11 T12 T13 T14 T15 T16 : Type} (body : (T1 → T2 → T3 → T4 → T5 → T6 → T7 → T8 → T9 → T10 → T11 → T12 → T13 → T14 → T15 → T16 → Prop) → T1 → T2 → T3 → T4 → T5 → T6 → T7 → T8 → T9 → T10 → T11 → T12 → T13 → T14 → T15 → T16 → Prop) (a1 : T1) (a2 : T2) (a3 : T3) (a4 : T4) (a5 : T5) (a6 : T6) (a7 : T7) (a8 : T8) (a9 : T9) (a10 : T10) (a11 : T11) (a12 : T12) (a13 : T13) (a14 : T14) (a15 : T15) (a16 : T16) : Prop := ∃ n, lz16 body n a1 a2 a3 a4 a5 a6 a7 a8 a9 a10 a11 a12 a13 a14 a15 a16
theorem Lz16_go {T1 T2 T3 T4 T5 T6 T7 T8 T9 T10 T11 T12 T13 T14 T15 T16 : Type} {body : (T1 → T2 → T3 → T4 → T5 → T6 → T7 → T8 → T9 → T10 → T11 → T12 → T13 → T14 → T15 → T16 → Prop) → T1 → T2 → T3 → T4 → T5 → T6 → T7 → T8 → T9 → T10 → T11 → T12 → T13 → T14 → T15 → T16 → Prop} {a1 : T1} {a2 : T2} {a3 : T3} {a4 : T4} {a5 : T5} {a6 : T6} {a7 : T7} {a8 : T8} {a9 : T9} {a10 : T10} {a11 : T11} {a12 : T12} {a13 : T13} {a14 : T14} {a15 : T15} {a16 : T16} {Gg : T1 → T2 → T3 → T4 → T5 → T6 → T7 → T8 → T9 → T10 → T11 → T12 → T13 → T14 → T15 → T16 → Prop} (h : Lz16 body a1 a2 a3 a4 a5 a6 a7 a8 a9 a10 a11 a12 a13 a14 a15 a16) (step : ∀ (again : T1 → T2 → T3 → T4 → T5 → T6 → T7 → T8 → T9 → T10 → T11 → T12 → T13 → T14 → T15 → T16 → Prop), (∀ (a1 : T1) (a2 : T2) (a3 : T3) (a4 : T4) (a5 : T5) (a6 : T6) (a7 : T7) (a8 : T8) (a9 : T9) (a10 : T10) (a11 : T11) (a12 : T12) (a13 : T13) (a14 : T14) (a15 : T15) (a16 : T16), again a1 a2 a3 a4 a5 a6 a7 a8 a9 a10 a11 a12 a13 a14 a15 a16 → Gg a1 a2 a3 a4 a5 a6 a7 a8 a9 a10 a11 a12 a13 a14 a15 a16) → ∀ (a1 : T1) (a2 : T2) (a3 : T3) (a4 : T4) (a5 : T5) (a6 : T6) (a7 : T7) (a8 : T8) (a9 : T9) (a10 : T10) (a11 : T11) (a12 : T12) (a13 : T13) (a14 : T14) (a15 : T15) (a16 : T16), body again a1 a2 a3 a4 a5 a6 a7 a8 a9 a10 a11 a12 a13 a14 a15 a16 → Gg a1 a2 a3 a4 a5 a6 a7 a8 a9 a10 a11 a12 a13 a14 a15 a16) : Gg a1 a2 a3 a4 a5 a6 a7 a8 a9 a10 a11 a12 a13 a14 a15 a16 := by
  obtain ⟨n, h⟩ := h
  induction n generalizing a1 a2 a3 a4 a5 a6 a7 a8 a9 a10 a11 a12 a13 a14 a15 a16 with
  | zero => exact h.elim
  | succ n ih => exact step (lz16 body n) (fun a1 a2 a3 a4 a5 a6 a7 a8 a9 a10 a11 a12 a13 a14 a15 a16 h => ih h) a1 a2 a3 a4 a5 a6 a7 a8 a9 a10 a11 a12 a13 a14 a15 a16 h
theorem Lz16_gr {T1 T2 T3 T4 T5 T6 T7 T8 T9 T10 T11 T12 T13 T14 T15 T16 : Type} {body : (T1 → T2 → T3 → T4 → T5 → T6 → T7 → T8 → T9 → T10 → T11 → T12 → T13 → T14 → T15 → T16 → Prop) → T1 → T2 → T3 → T4 → T5 → T6 → T7 → T8 → T9 → T10 → T11 → T12 → T13 → T14 → T15 → T16 → Prop} {Gg : T1 → T2 → T3 → T4 → T5 → T6 → T7 → T8 → T9 → T10 → T11 → T12 → T13 → T14 → T15 → T16 → Prop} (step : ∀ (again : T1 → T2 → T3 → T4 → T5 → T6 → T7 → T8 → T9 → T10 → T11 → T12 → T13 → T14 → T15 → T16 → Prop), (∀ (a1 : T1) (a2 : T2) (a3 : T3) (a4 : T4) (a5 : T5) (a6 : T6) (a7 : T7) (a8 : T8) (a9 : T9) (a10 : T10) (a11 : T11) (a12 : T12) (a13 : T13) (a14 : T14) (a15 : T15) (a16 : T16), again a1 a2 a3 a4 a5 a6 a7 a8 a9 a10 a11 a12 a13 a14 a15 a16 → Gg a1 a2 a3 a4 a5 a6 a7 a8 a9 a10 a11 a12 a13 a14 a15 a16) → ∀ (a1 : T1) (a2 : T2) (a3 : T3) (a4 : T4) (a5 : T5) (a6 : T6) (a7 : T7) (a8 : T8) (a9 : T9) (a10 : T10) (a11 : T11) (a12 : T12) (a13 : T13) (a14 : T14) (a15 : T15) (a16 : T16), body again a1 a2 a3 a4 a5 a6 a7 a8 a9 a10 a11 a12 a13 a14 a15 a16 → Gg a1 a2 a3 a4 a5 a6 a7 a8 a9 a10 a11 a12 a13 a14 a15 a16) : ∀ (a1 : T1) (a2 : T2) (a3 : T3) (a4 : T4) (a5 : T5) (a6 : T6) (a7 : T7) (a8 : T8) (a9 : T9) (a10 : T10) (a11 : T11) (a12 : T12) (a13 : T13) (a14 : T14) (a15 : T15) (a16 : T16), Lz16 body a1 a2 a3 a4 a5 a6 a7 a8 a9 a10 a11 a12 a13 a14 a15 a16 → Gg a1 a2 a3 a4 a5 a6 a7 a8 a9 a10 a11 a12 a13 a14 a15 a16 := fun a1 a2 a3 a4 a5 a6 a7 a8 a9 a10 a11 a12 a13 a14 a15 a16 h => Lz16_go h step
theorem Lz16_by {T1 T2 T3 T4 T5 T6 T7 T8 T9 T10 T11 T12 T13 T14 T15 T16 : Type} {body : (T1 → T2 → T3 → T4 → T5 → T6 → T7 → T8 → T9 → T10 → T11 → T12 → T13 → T14 → T15 → T16 → Prop) → T1 → T2 → T3 → T4 → T5 → T6 → T7 → T8 → T9 → T10 → T11 → T12 → T13 → T14 → T15 → T16 → Prop} (I : T1 → T2 → T3 → T4 → T5 → T6 → T7 → T8 → T9 → T10 → T11 → T12 → T13 → T14 → T15 → T16 → Prop) (μ : T1 → T2 → T3 → T4 → T5 → T6 → T7 → T8 → T9 → T10 → T11 → T12 → T13 → T14 → T15 → T16 → Nat) (a1 : T1) (a2 : T2) (a3 : T3) (a4 : T4) (a5 : T5) (a6 : T6) (a7 : T7) (a8 : T8) (a9 : T9) (a10 : T10) (a11 : T11) (a12 : T12) (a13 : T13) (a14 : T14) (a15 : T15) (a16 : T16) (h0 : I a1 a2 a3 a4 a5 a6 a7 a8 a9 a10 a11 a12 a13 a14 a15 a16) (step : ∀ (a1 : T1) (a2 : T2) (a3 : T3) (a4 : T4) (a5 : T5) (a6 : T6) (a7 : T7) (a8 : T8) (a9 : T9) (a10 : T10) (a11 : T11) (a12 : T12) (a13 : T13) (a14 : T14) (a15 : T15) (a16 : T16), I a1 a2 a3 a4 a5 a6 a7 a8 a9 a10 a11 a12 a13 a14 a15 a16 → ∀ (again : T1 → T2 → T3 → T4 → T5 → T6 → T7 → T8 → T9 → T10 → T11 → T12 → T13 → T14 → T15 → T16 → Prop), (∀ (b1 : T1) (b2 : T2) (b3 : T3) (b4 : T4) (b5 : T5) (b6 : T6) (b7 : T7) (b8 : T8) (b9 : T9) (b10 : T10) (b11 : T11) (b12 : T12) (b13 : T13) (b14 : T14) (b15 : T15) (b16 : T16), I b1 b2 b3 b4 b5 b6 b7 b8 b9 b10 b11 b12 b13 b14 b15 b16 → μ b1 b2 b3 b4 b5 b6 b7 b8 b9 b10 b11 b12 b13 b14 b15 b16 < μ a1 a2 a3 a4 a5 a6 a7 a8 a9 a10 a11 a12 a13 a14 a15 a16 → again b1 b2 b3 b4 b5 b6 b7 b8 b9 b10 b11 b12 b13 b14 b15 b16) → body again a1 a2 a3 a4 a5 a6 a7 a8 a9 a10 a11 a12 a13 a14 a15 a16) : Lz16 body a1 a2 a3 a4 a5 a6 a7 a8 a9 a10 a11 a12 a13 a14 a15 a16 := by
  have key : ∀ (n : Nat) (a1 : T1) (a2 : T2) (a3 : T3) (a4 : T4) (a5 : T5) (a6 : T6) (a7 : T7) (a8 : T8) (a9 : T9) (a10 : T10) (a11 : T11) (a12 : T12) (a13 : T13) (a14 : T14) (a15 : T15) (a16 : T16), I a1 a2 a3 a4 a5 a6 a7 a8 a9 a10 a11 a12 a13 a14 a15 a16 → μ a1 a2 a3 a4 a5 a6 a7 a8 a9 a10 a11 a12 a13 a14 a15 a16 < n → lz16 body n a1 a2 a3 a4 a5 a6 a7 a8 a9 a10 a11 a12 a13 a14 a15 a16 := by
    intro n
    induction n with
    | zero => intro a1 a2 a3 a4 a5 a6 a7 a8 a9 a10 a11 a12 a13 a14 a15 a16 _ h; exact absurd h (Nat.not_lt_zero _)
    | succ n ih => intro a1 a2 a3 a4 a5 a6 a7 a8 a9 a10 a11 a12 a13 a14 a15 a16 hI hm; exact step a1 a2 a3 a4 a5 a6 a7 a8 a9 a10 a11 a12 a13 a14 a15 a16 hI (lz16 body n) (fun b1 b2 b3 b4 b5 b6 b7 b8 b9 b10 b11 b12 b13 b14 b15 b16 hI2 hm2 => ih b1 b2 b3 b4 b5 b6 b7 b8 b9 b10 b11 b12 b13 b14 b15 b16 hI2 (Nat.lt_of_lt_of_le hm2 (Nat.le_of_lt_succ hm)))
  exact ⟨_, key (μ a1 a2 a3 a4 a5 a6 a7 a8 a9 a10 a11 a12 a13 a14 a15 a16 + 1) a1 a2 a3 a4 a5 a6 a7 a8 a9 a10 a11 a12 a13 a14 a15 a16 h0 (Nat.lt_succ_self _)⟩
def lz17 {T1 T2 T3 T4 T5 T6 T7 T8 T9 T10 T11 T12 T13 T14 T15 T16 T17 : Type} (body : (T1 → T2 → T3 → T4 → T5 → T6 → T7 → T8 → T9 → T10 → T11 → T12 → T13 → T14 → T15 → T16 → T17 → Prop) → T1 → T2 → T3 → T4 → T5 → T6 → T7 → T8 → T9 → T10 → T11 → T12 → T13 → T14 → T15 → T16 → T17 → Prop) : Nat → T1 → T2 → T3 → T4 → T5 → T6 → T7 → T8 → T9 → T10 → T11 → T12 → T13 → T14 → T15 → T16 → T17 → Prop
  | 0 => fun _ _ _ _ _ _ _ _ _ _ _ _ _ _ _ _ _ => False
  | n + 1 => body (lz17 body n)
def Lz17 {T1 T2 T3 T4 T5 T6 T7 T8 T9 T10 T11 T12 T13 T14 T15 T16 T17 : Type} (body : (T1 → T2 → T3 → T4 → T5 → T6 → T7 → T8 → T9 → T10 → T11 → T12 → T13 → T14 → T15 → T16 → T17 → Prop) → T1 → T2 → T3 → T4 → T5 → T6 → T7 → T8 → T9 → T10 → T11 → T12 → T13 → T14 → T15 → T16 → T17 → Prop) (a1 : T1) (a2 : T2) (a3 : T3) (a4 : T4) (a5 : T5) (a6 : T6) (a7 : T7) (a8 : T8) (a9 : T9) (a10 : T10) (a11 : T11) (a12 : T12) (a13 : T13) (a14 : T14) (a15 : T15) (a16 : T16) (a17 : T17) : Prop := ∃ n, lz17 body n a1 a2 a3 a4 a5 a6 a7 a8 a9 a10 a11 a12 a13 a14 a15 a16 a17
theorem Lz17_go {T1 T2 T3 T4 T5 T6 T7 T8 T9 T10 T11 T12 T13 T14 T15 T16 T17 : Type} {body : (T1 → T2 → T3 → T4 → T5 → T6 → T7 → T8 → T9 → T10 → T11 → T12 → T13 → T14 → T15 → T16 → T17 → Prop) → T1 → T2 → T3 → T4 → T5 → T6 → T7 → T8 → T9 → T10 → T11 → T12 → T13 → T14 → T15 → T16 → T17 → Prop} {a1 : T1} {a2 : T2} {a3 : T3} {a4 : T4} {a5 : T5} {a6 : T6} {a7 : T7} {a8 : T8} {a9 : T9} {a10 : T10} {a11 : T11} {a12 : T12} {a13 : T13} {a14 : T14} {a15 : T15} {a16 : T16} {a17 : T17} {Gg : T1 → T2 → T3 → T4 → T5 → T6 → T7 → T8 → T9 → T10 → T11 → T12 → T13 → T14 → T15 → T16 → T17 → Prop} (h : Lz17 body a1 a2 a3 a4 a5 a6 a7 a8 a9 a10 a11 a12 a13 a14 a15 a16 a17) (step : ∀ (again : T1 → T2 → T3 → T4 → T5 → T6 → T7 → T8 → T9 → T10 → T11 → T12 → T13 → T14 → T15 → T16 → T17 → Prop), (∀ (a1 : T1) (a2 : T2) (a3 : T3) (a4 : T4) (a5 : T5) (a6 : T6) (a7 : T7) (a8 : T8) (a9 : T9) (a10 : T10) (a11 : T11) (a12 : T12) (a13 : T13) (a14 : T14) (a15 : T15) (a16 : T16) (a17 : T17), again a1 a2 a3 a4 a5 a6 a7 a8 a9 a10 a11 a12 a13 a14 a15 a16 a17 → Gg a1 a2 a3 a4 a5 a6 a7 a8 a9 a10 a11 a12 a13 a14 a15 a16 a17) → ∀ (a1 : T1) (a2 : T2) (a3 : T3) (a4 : T4) (a5 : T5) (a6 : T6) (a7 : T7) (a8 : T8) (a9 : T9) (a10 : T10) (a11 : T11) (a12 : T12) (a13 : T13) (a14 : T14) (a15 : T15) (a16 : T16) (a17 : T17), body again a1 a2 a3 a4 a5 a6 a7 a8 a9 a10 a11 a12 a13 a14 a15 a16 a17 → Gg a1 a2 a3 a4 a5 a6 a7 a8 a9 a10 a11 a12 a13 a14 a15 a16 a17) : Gg a1 a2 a3 a4 a5 a6 a7 a8 a9 a10 a11 a12 a13 a14 a15 a16 a17 := by
  obtain ⟨n, h⟩ := h
  induction n generalizing a1 a2 a3 a4 a5 a6 a7 a8 a9 a10 a11 a12 a13 a14 a15 a16 a17 with
  | zero => exact h.elim
  | succ n ih => exact step (lz17 body n) (fun a1 a2 a3 a4 a5 a6 a7 a8 a9 a10 a11 a12 a13 a14 a15 a16 a17 h => ih h) a1 a2 a3 a4 a5 a6 a7 a8 a9 a10 a11 a12 a13 a14 a15 a16 a17 h
theorem Lz17_gr {T1 T2 T3 T4 T5 T6 T7 T8 T9 T10 T11 T12 T13 T14 T15 T16 T17 : Type} {body : (T1 → T2 → T3 → T4 → T5 → T6 → T7 → T8 → T9 → T10 → T11 → T12 → T13 → T14 → T15 → T16 → T17 → Prop) → T1 → T2 → T3 → T4 → T5 → T6 → T7 → T8 → T9 → T10 → T11 → T12 → T13 → T14 → T15 → T16 → T17 → Prop} {Gg : T1 → T2 → T3 → T4 → T5 → T6 → T7 → T8 → T9 → T10 → T11 → T12 → T13 → T14 → T15 → T16 → T17 → Prop} (step : ∀ (again : T1 → T2 → T3 → T4 → T5 → T6 → T7 → T8 → T9 → T10 → T11 → T12 → T13 → T14 → T15 → T16 → T17 → Prop), (∀ (a1 : T1) (a2 : T2) (a3 : T3) (a4 : T4) (a5 : T5) (a6 : T6) (a7 : T7) (a8 : T8) (a9 : T9) (a10 : T10) (a11 : T11) (a12 : T12) (a13 : T13) (a14 : T14) (a15 : T15) (a16 : T16) (a17 : T17), again a1 a2 a3 a4 a5 a6 a7 a8 a9 a10 a11 a12 a13 a14 a15 a16 a17 → Gg a1 a2 a3 a4 a5 a6 a7 a8 a9 a10 a11 a12 a13 a14 a15 a16 a17) → ∀ (a1 : T1) (a2 : T2) (a3 : T3) (a4 : T4) (a5 : T5) (a6 : T6) (a7 : T7) (a8 : T8) (a9 : T9) (a10 : T10) (a11 : T11) (a12 : T12) (a13 : T13) (a14 : T14) (a15 : T15) (a16 : T16) (a17 : T17), body again a1 a2 a3 a4 a5 a6 a7 a8 a9 a10 a11 a12 a13 a14 a15 a16 a17 → Gg a1 a2 a3 a4 a5 a6 a7 a8 a9 a10 a11 a12 a13 a14 a15 a16 a17) : ∀ (a1 : T1) (a2 : T2) (a3 : T3) (a4 : T4) (a5 : T5) (a6 : T6) (a7 : T7) (a8 : T8) (a9 : T9) (a10 : T10) (a11 : T11) (a12 : T12) (a13 : T13) (a14 : T14) (a15 : T15) (a16 : T16) (a17 : T17), Lz17 body a1 a2 a3 a4 a5 a6 a7 a8 a9 a10 a11 a12 a13 a14 a15 a16 a17 → Gg a1 a2 a3 a4 a5 a6 a7 a8 a9 a10 a11 a12 a13 a14 a15 a16 a17 := fun a1 a2 a3 a4 a5 a6 a7 a8 a9 a10 a11 a12 a13 a14 a15 a16 a17 h => Lz17_go h step
theorem Lz17_by {T1 T2 T3 T4 T5 T6 T7 T8 T9 T10 T11 T12 T13 T14 T15 T16 T17 : Type} {body : (T1 → T2 → T3 → T4 → T5 → T6 → T7 → T8 → T9 → T10 → T11 → T12 → T13 → T14 → T15 → T16 → T17 → Prop) → T1 → T2 → T3 → T4 → T5 → T6 → T7 → T8 → T9 → T10 → T11 → T12 → T13 → T14 → T15 → T16 → T17 → Prop} (I : T1 → T2 → T3 → T4 → T5 → T6 → T7 → T8 → T9 → T10 → T11 → T12 → T13 → T14 → T15 → T16 → T17 → Prop) (μ : T1 → T2 → T3 → T4 → T5 → T6 → T7 → T8 → T9 → T10 → T11 → T12 → T13 → T14 → T15 → T16 → T17 → Nat) (a1 : T1) (a2 : T2) (a3 : T3) (a4 : T4) (a5 : T5) (a6 : T6) (a7 : T7) (a8 : T8) (a9 : T9) (a10 : T10) (a11 : T11) (a12 : T12) (a13 : T13) (a14 : T14) (a15 : T15) (a16 : T16) (a17 : T17) (h0 : I a1 a2 a3 a4 a5 a6 a7 a8 a9 a10 a11 a12 a13 a14 a15 a16 a17) (step : ∀ (a1 : T1) (a2 : T2) (a3 : T3) (a4 : T4) (a5 : T5) (a6 : T6) (a7 : T7) (a8 : T8) (a9 : T9) (a10 : T10) (a11 : T11) (a12 : T12) (a13 : T13) (a14 : T14) (a15 : T15) (a16 : T16) (a17 : T17), I a1 a2 a3 a4 a5 a6 a7 a8 a9 a10 a11 a12 a13 a14 a15 a16 a17 → ∀ (again : T1 → T2 → T3 → T4 → T5 → T6 → T7 → T8 → T9 → T10 → T11 → T12 → T13 → T14 → T15 → T16 → T17 → Prop), (∀ (b1 : T1) (b2 : T2) (b3 : T3) (b4 : T4) (b5 : T5) (b6 : T6) (b7 : T7) (b8 : T8) (b9 : T9) (b10 : T10) (b11 : T11) (b12 : T12) (b13 : T13) (b14 : T14) (b15 : T15) (b16 : T16) (b17 : T17), I b1 b2 b3 b4 b5 b6 b7 b8 b9 b10 b11 b12 b13 b14 b15 b16 b17 → μ b1 b2 b3 b4 b5 b6 b7 b8 b9 b10 b11 b12 b13 b14 b15 b16 b17 < μ a1 a2 a3 a4 a5 a6 a7 a8 a9 a10 a11 a12 a13 a14 a15 a16 a17 → again b1 b2 b3 b4 b5 b6 b7 b8 b9 b10 b11 b12 b13 b14 b15 b16 b17) → body again a1 a2 a3 a4 a5 a6 a7 a8 a9 a10 a11 a12 a13 a14 a15 a16 a17) : Lz17 body a1 a2 a3 a4 a5 a6 a7 a8 a9 a10 a11 a12 a13 a14 a15 a16 a17 := by
  have key : ∀ (n : Nat) (a1 : T1) (a2 : T2) (a3 : T3) (a4 : T4) (a5 : T5) (a6 : T6) (a7 : T7) (a8 : T8) (a9 : T9) (a10 : T10) (a11 : T11) (a12 : T12) (a13 : T13) (a14 : T14) (a15 : T15) (a16 : T16) (a17 : T17), I a1 a2 a3 a4 a5 a6 a7 a8 a9 a10 a11 a12 a13 a14 a15 a16 a17 → μ a1 a2 a3 a4 a5 a6 a7 a8 a9 a10 a11 a12 a13 a14 a15 a16 a17 < n → lz17 body n a1 a2 a3 a4 a5 a6 a7 a8 a9 a10 a11 a12 a13 a14 a15 a16 a17 := by
    intro n
    induction n with
    | zero => intro a1 a2 a3 a4 a5 a6 a7 a8 a9 a10 a11 a12 a13 a14 a15 a16 a17 _ h; exact absurd h (Nat.not_lt_zero _)
    | succ n ih => intro a1 a2 a3 a4 a5 a6 a7 a8 a9 a10 a11 a12 a13 a14 a15 a16 a17 hI hm; exact step a1 a2 a3 a4 a5 a6 a7 a8 a9 a10 a11 a12 a13 a14 a15 a16 a17 hI (lz17 body n) (fun b1 b2 b3 b4 b5 b6 b7 b8 b9 b10 b11 b12 b13 b14 b15 b16 b17 hI2 hm2 => ih b1 b2 b3 b4 b5 b6 b7 b8 b9 b10 b11 b12 b13 b14 b15 b16 b17 hI2 (Nat.lt_of_lt_of_le hm2 (Nat.le_of_lt_succ hm)))
  exact ⟨_, key (μ a1 a2 a3 a4 a5 a6 a7 a8 a9 a10 a11 a12 a13 a14 a15 a16 a17 + 1) a1 a2 a3 a4 a5 a6 a7 a8 a9 a10 a11 a12 a13 a14 a15 a16 a17 h0 (Nat.lt_succ_self _)⟩
def lz18 {T1 T2 T3 T4 T5 T6 T7 T8 T9 T10 T11 T12 T13 T14 T15 T16 T17 T18 : Type} (body : (T1 → T2 → T3 → T4 → T5 → T6 → T7 → T8 → T9 → T10 → T11 → T12 → T13 → T14 → T15 → T16 → T17 → T18 → Prop) → T1 → T2 → T3 → T4 → T5 → T6 → T7 → T8 → T9 → T10 → T11 → T12 → T13 → T14 → T15 → T16 → T17 → T18 → Prop) : Nat → T1 → T2 → T3 → T4 → T5 → T6 → T7 → T8 → T9 → T10 → T11 → T12 → T13 → T14 → T15 → T16 → T17 → T18 → Prop
  | 0 => fun _ _ _ _ _ _ _ _ _ _ _ _ _ _ _ _ _ _ => False
  | n + 1 => body (lz18 body n)
def Lz18 {T1 T2 T3 T4 T5 T6 T7 T8 T9 T10 T11 T12 T13 T14 T15 T16 T17 T18 : Type} (body : (T1 → T2 → T3 → T4 → T5 → T6 → T7 → T8 → T9 → T10 → T11 → T12 → T13 → T14 → T15 → T16 → T17 → T18 → Prop) → T1 → T2 → T3 → T4 → T5 → T6 → T7 → T8 → T9 → T10 → T11 → T12 → T13 → T14 → T15 → T16 → T17 → T18 → Prop) (a1 : T1) (a2 : T2) (a3 : T3) (a4 : T4) (a5 : T5) (a6 : T6) (a7 : T7) (a8 : T8) (a9 : T9) (a10 : T10) (a11 : T11) (a12 : T12) (a13 : T13) (a14 : T14) (a15 : T15) (a16 : T16) (a17 : T17) (a18 : T18) : Prop := ∃ n, lz18 body n a1 a2 a3 a4 a5 a6 a7 a8 a9 a10 a11 a12 a13 a14 a15 a16 a17 a18
theorem Lz18_go {T1 T2 T3 T4 T5 T6 T7 T8 T9 T10 T11 T12 T13 T14 T15 T16 T17 T18 : Type} {body : (T1 → T2 → T3 → T4 → T5 → T6 → T7 → T8 → T9 → T10 → T11 → T12 → T13 → T14 → T15 → T16 → T17 → T18 → Prop) → T1 → T2 → T3 → T4 → T5 → T6 → T7 → T8 → T9 → T10 → T11 → T12 → T13 → T14 → T15 → T16 → T17 → T18 → Prop} {a1 : T1} {a2 : T2} {a3 : T3} {a4 : T4} {a5 : T5} {a6 : T6} {a7 : T7} {a8 : T8} {a9 : T9} {a10 : T10} {a11 : T11} {a12 : T12} {a13 : T13} {a14 : T14} {a15 : T15} {a16 : T16} {a17 : T17} {a18 : T18} {Gg : T1 → T2 → T3 → T4 → T5 → T6 → T7 → T8 → T9 → T10 → T11 → T12 → T13 → T14 → T15 → T16 → T17 → T18 → Prop} (h : Lz18 body a1 a2 a3 a4 a5 a6 a7 a8 a9 a10 a11 a12 a13 a14 a15 a16 a17 a18) (step : ∀ (again : T1 → T2 → T3 → T4 → T5 → T6 → T7 → T8 → T9 → T10 → T11 → T12 → T13 → T14 → T15 → T16 → T17 → T18 → Prop), (∀ (a1 : T1) (a2 : T2) (a3 : T3) (a4 : T4) (a5 : T5) (a6 : T6) (a7 : T7) (a8 : T8) (a9 : T9) (a10 : T10) (a11 : T11) (a12 : T12) (a13 : T13) (a14 : T14) (a15 : T15) (a16 : T16) (a17 : T17) (a18 : T18), again a1 a2 a3 a4 a5 a6 a7 a8 a9 a10 a11 a12 a13 a14 a15 a16 a17 a18 → Gg a1 a2 a3 a4 a5 a6 a7 a8 a9 a10 a11 a12 a13 a14 a15 a16 a17 a18) → ∀ (a1 : T1) (a2 : T2) (a3 : T3) (a4 : T4) (a5 : T5) (a6 : T6) (a7 : T7) (a8 : T8) (a9 : T9) (a10 : T10) (a11 : T11) (a12 : T12) (a13 : T13) (a14 : T14) (a15 : T15) (a16 : T16) (a17 : T17) (a18 : T18), body again a1 a2 a3 a4 a5 a6 a7 a8 a9 a10 a11 a12 a13 a14 a15 a16 a17 a18 → Gg a1 a2 a3 a4 a5 a6 a7 a8 a9 a10 a11 a12 a13 a14 a15 a16 a17 a18) : Gg a1 a2 a3 a4 a5 a6 a7 a8 a9 a10 a11 a12 a13 a14 a15 a16 a17 a18 := by
  obtain ⟨n, h⟩ := h
  induction n generalizing a1 a2 a3 a4 a5 a6 a7 a8 a9 a10 a11 a12 a13 a14 a15 a16 a17 a18 with
  | zero => exact h.elim
  | succ n ih => exact step (lz18 body n) (fun a1 a2 a3 a4 a5 a6 a7 a8 a9 a10 a11 a12 a13 a14 a15 a16 a17 a18 h => ih h) a1 a2 a3 a4 a5 a6 a7 a8 a9 a10 a11 a12 a13 a14 a15 a16 a17 a18 h
theorem Lz18_gr {T1 T2 T3 T4 T5 T6 T7 T8 T9 T10 T11 T12 T13 T14 T15 T16 T17 T18 : Type} {body : (T1 → T2 → T3 → T4 → T5 → T6 → T7 → T8 → T9 → T10 → T11 → T12 → T13 → T14 → T15 → T16 → T17 → T18 → Prop) → T1 → T2 → T3 → T4 → T5 → T6 → T7 → T8 → T9 → T10 → T11 → T12 → T13 → T14 → T15 → T16 → T17 → T18 → Prop} {Gg : T1 → T2 → T3 → T4 → T5 → T6 → T7 → T8 → T9 → T10 → T11 → T12 → T13 → T14 → T15 → T16 → T17 → T18 → Prop} (step : ∀ (again : T1 → T2 → T3 → T4 → T5 → T6 → T7 → T8 → T9 → T10 → T11 → T12 → T13 → T14 → T15 → T16 → T17 → T18 → Prop), (∀ (a1 : T1) (a2 : T2) (a3 : T3) (a4 : T4) (a5 : T5) (a6 : T6) (a7 : T7) (a8 : T8) (a9 : T9) (a10 : T10) (a11 : T11) (a12 : T12) (a13 : T13) (a14 : T14) (a15 : T15) (a16 : T16) (a17 : T17) (a18 : T18), again a1 a2 a3 a4 a5 a6 a7 a8 a9 a10 a11 a12 a13 a14 a15 a16 a17 a18 → Gg a1 a2 a3 a4 a5 a6 a7 a8 a9 a10 a11 a12 a13 a14 a15 a16 a17 a18) → ∀ (a1 : T1) (a2 : T2) (a3 : T3) (a4 : T4) (a5 : T5) (a6 : T6) (a7 : T7) (a8 : T8) (a9 : T9) (a10 : T10) (a11 : T11) (a12 : T12) (a13 : T13) (a14 : T14) (a15 : T15) (a16 : T16) (a17 : T17) (a18 : T18), body again a1 a2 a3 a4 a5 a6 a7 a8 a9 a10 a11 a12 a13 a14 a15 a16 a17 a18 → Gg a1 a2 a3 a4 a5 a6 a7 a8 a9 a10 a11 a12 a13 a14 a15 a16 a17 a18) : ∀ (a1 : T1) (a2 : T2) (a3 : T3) (a4 : T4) (a5 : T5) (a6 : T6) (a7 : T7) (a8 : T8) (a9 : T9) (a10 : T10) (a11 : T11) (a12 : T12) (a13 : T13) (a14 : T14) (a15 : T15) (a16 : T16) (a17 : T17) (a18 : T18), Lz18 body a1 a2 a3 a4 a5 a6 a7 a8 a9 a10 a11 a12 a13 a14 a15 a16 a17 a18 → Gg a1 a2 a3 a4 a5 a6 a7 a8 a9 a10 a11 a12 a13 a14 a15 a16 a17 a18 := fun a1 a2 a3 a4 a5 a6 a7 a8 a9 a10 a11 a12 a13 a14 a15 a16 a17 a18 h => Lz18_go h step
theorem Lz18_by {T1 T2 T3 T4 T5 T6 T7 T8 T9 T10 T11 T12 T13 T14 T15 T16 T17 T18 : Type} {body : (T1 → T2 → T3 → T4 → T5 → T6 → T7 → T8 → T9 → T10 → T11 → T12 → T13 → T14 → T15 → T16 → T17 → T18 → Prop) → T1 → T2 → T3 → T4 → T5 → T6 → T7 → T8 → T9 → T10 → T11 → T12 → T13 → T14 → T15 → T16 → T17 → T18 → Prop} (I : T1 → T2 → T3 → T4 → T5 → T6 → T7 → T8 → T9 → T10 → T11 → T12 → T13 → T14 → T15 → T16 → T17 → T18 → Prop) (μ : T1 → T2 → T3 → T4 → T5 → T6 → T7 → T8 → T9 → T10 → T11 → T12 → T13 → T14 → T15 → T16 → T17 → T18 → Nat) (a1 : T1) (a2 : T2) (a3 : T3) (a4 : T4) (a5 : T5) (a6 : T6) (a7 : T7) (a8 : T8) (a9 : T9) (a10 : T10) (a11 : T11) (a12 : T12) (a13 : T13) (a14 : T14) (a15 : T15) (a16 : T16) (a17 : T17) (a18 : T18) (h0 : I a1 a2 a3 a4 a5 a6 a7 a8 a9 a10 a11 a12 a13 a14 a15 a16 a17 a18) (step : ∀ (a1 : T1) (a2 : T2) (a3 : T3) (a4 : T4) (a5 : T5) (a6 : T6) (a7 : T7) (a8 : T8) (a9 : T9) (a10 : T10) (a11 : T11) (a12 : T12) (a13 : T13) (a14 : T14) (a15 : T15) (a16 : T16) (a17 : T17) (a18 : T18), I a1 a2 a3 a4 a5 a6 a7 a8 a9 a10 a11 a12 a13 a14 a15 a16 a17 a18 → ∀ (again : T1 → T2 → T3 → T4 → T5 → T6 → T7 → T8 → T9 → T10 → T11 → T12 → T13 → T14 → T15 → T16 → T17 → T18 → Prop), (∀ (b1 : T1) (b2 : T2) (b3 : T3) (b4 : T4) (b5 : T5) (b6 : T6) (b7 : T7) (b8 : T8) (b9 : T9) (b10 : T10) (b11 : T11) (b12 : T12) (b13 : T13) (b14 : T14) (b15 : T15) (b16 : T16) (b17 : T17) (b18 : T18), I b1 b2 b3 b4 b5 b6 b7 b8 b9 b10 b11 b12 b13 b14 b15 b16 b17 b18 → μ b1 b2 b3 b4 b5 b6 b7 b8 b9 b10 b11 b12 b13 b14 b15 b16 b17 b18 < μ a1 a2 a3 a4 a5 a6 a7 a8 a9 a10 a11 a12 a13 a14 a15 a16 a17 a18 → again b1 b2 b3 b4 b5 b6 b7 b8 b9 b10 b11 b12 b13 b14 b15 b16 b17 b18) → body again a1 a2 a3 a4 a5 a6 a7 a8 a9 a10 a11 a12 a13 a14 a15 a16 a17 a18) : Lz18 body a1 a2 a3 a4 a5 a6 a7 a8 a9 a10 a11 a12 a13 a14 a15 a16 a17 a18 := by
  have key : ∀ (n : Nat) (a1 : T1) (a2 : T2) (a3 : T3) (a4 : T4) (a5 : T5) (a6 : T6) (a7 : T7) (a8 : T8) (a9 : T9) (a10 : T10) (a11 : T11) (a12 : T12) (a13 : T13) (a14 : T14) (a15 : T15) (a16 : T16) (a17 : T17) (a18 : T18), I a1 a2 a3 a4 a5 a6 a7 a8 a9 a10 a11 a12 a13 a14 a15 a16 a17 a18 → μ a1 a2 a3 a4 a5 a6 a7 a8 a9 a10 a11 a12 a13 a14 a15 a16 a17 a18 < n → lz18 body n a1 a2 a3 a4 a5 a6 a7 a8 a9 a10 a11 a12 a13 a14 a15 a16 a17 a18 := by
    intro n
    induction n with
    | zero => intro a1 a2 a3 a4 a5 a6 a7 a8 a9 a10 a11 a12 a13 a14 a15 a16 a17 a18 _ h; exact absurd h (Nat.not_lt_zero _)
    | succ n ih => intro a1 a2 a3 a4 a5 a6 a7 a8 a9 a10 a11 a12 a13 a14 a15 a16 a17 a18 hI hm; exact step a1 a2 a3 a4 a5 a6 a7 a8 a9 a10 a11 a12 a13 a14 a15 a16 a17 a18 hI (lz18 body n) (fun b1 b2 b3 b4 b5 b6 b7 b8 b9 b10 b11 b12 b13 b14 b15 b16 b17 b18 hI2 hm2 => ih b1 b2 b3 b4 b5 b6 b7 b8 b9 b10 b11 b12 b13 b14 b15 b16 b17 b18 hI2 (Nat.lt_of_lt_of_le hm2 (Nat.le_of_lt_succ hm)))
  exact ⟨_, key (μ a1 a2 a3 a4 a5 a6 a7 a8 a9 a10 a11 a12 a13 a14 a15 a16 a17 a18 + 1) a1 a2 a3 a4 a5 a6 a7 a8 a9 a10 a11 a12 a13 a14 a15 a16 a17 a18 h0 (Nat.lt_succ_self _)⟩
def lz19 {T1 T2 T3 T4 T5 T6 T7 T8 T9 T10 T11 T12 T13 T14 T15 T16 T17 T18 T19 : Type} (body : (T1 → T2 → T3 → T4 → T5 → T6 → T7 → T8 → T9 → T10 → T11 → T12 → T13 → T14 → T15 → T16 → T17 → T18 → T19 → Prop) → T1 → T2 → T3 → T4 → T5 → T6 → T7 → T8 → T9 → T10 → T11 → T12 → T13 → T14 → T15 → T16 → T17 → T18 → T19 → Prop) : Nat → T1 → T2 → T3 → T4 → T5 → T6 → T7 → T8 → T9 → T10 → T11 → T12 → T13 → T14 → T15 → T16 → T17 → T18 → T19 → Prop
  | 0 => fun _ _ _ _ _ _ _ _ _ _ _ _ _ _ _ _ _ _ _ => False
  | n + 1 => body (lz19 body n)
def Lz19 {T1 T2 T3 T4 T5 T6 T7 T8 T9 T10 T11 T12 T13 T14 T15 T16 T17 T18 T19 : Type} (body : (T1 → T2 → T3 → T4 → T5 → T6 → T7 → T8 → T9 → T10 → T11 → T12 → T13 → T14 → T15 → T16 → T17 → T18 → T19 → Prop) → T1 → T2 → T3 → T4 → T5 → T6 → T7 → T8 → T9 → T10 → T11 → T12 → T13 → T14 → T15 → T16 → T17 → T18 → T19 → Prop) (a1 : T1) (a2 : T2) (a3 : T3) (a4 : T4) (a5 : T5) (a6 : T6) (a7 : T7) (a8 : T8) (a9 : T9) (a10 : T10) (a11 : T11) (a12 : T12) (a13 : T13) (a14 : T14) (a15 : T15) (a16 : T16) (a17 : T17) (a18 : T18) (a19 : T19) : Prop := ∃ n, lz19 body n a1 a2 a3 a4 a5 a6 a7 a8 a9 a10 a11 a12 a13 a14 a15 a16 a17 a18 a19
theorem Lz19_go {T1 T2 T3 T4 T5 T6 T7 T8 T9 T10 T11 T12 T13 T14 T15 T16 T17 T18 T19 : Type} {body : (T1 → T2 → T3 → T4 → T5 → T6 → T7 → T8 → T9 → T10 → T11 → T12 → T13 → T14 → T15 → T16 → T17 → T18 → T19 → Prop) → T1 → T2 → T3 → T4 → T5 → T6 → T7 → T8 → T9 → T10 → T11 → T12 → T13 → T14 → T15 → T16 → T17 → T18 → T19 → Prop} {a1 : T1} {a2 : T2} {a3 : T3} {a4 : T4} {a5 : T5} {a6 : T6} {a7 : T7} {a8 : T8} {a9 : T9} {a10 : T10} {a11 : T11} {a12 : T12} {a13 : T13} {a14 : T14} {a15 : T15} {a16 : T16} {a17 : T17} {a18 : T18} {a19 : T19} {Gg : T1 → T2 → T3 → T4 → T5 → T6 → T7 → T8 → T9 → T10 → T11 → T12 → T13 → T14 → T15 → T16 → T17 → T18 → T19 → Prop} (h : Lz19 body a1 a2 a3 a4 a5 a6 a7 a8 a9 a10 a11 a12 a13 a14 a15 a16 a17 a18 a19) (step : ∀ (again : T1 → T2 → T3 → T4 → T5 → T6 → T7 → T8 → T9 → T10 → T11 → T12 → T13 → T14 → T15 → T16 → T17 → T18 → T19 → Prop), (∀ (a1 : T1) (a2 : T2) (a3 : T3) (a4 : T4) (a5 : T5) (a6 : T6) (a7 : T7) (a8 : T8) (a9 : T9) (a10 : T10) (a11 : T11) (a12 : T12) (a13 : T13) (a14 : T14) (a15 : T15) (a16 : T16) (a17 : T17) (a18 : T18) (a19 : T19), again a1 a2 a3 a4 a5 a6 a7 a8 a9 a10 a11 a12 a13 a14 a15 a16 a17 a18 a19 → Gg a1 a2 a3 a4 a5 a6 a7 a8 a9 a10 a11 a12 a13 a14 a15 a16 a17 a18 a19) → ∀ (a1 : T1) (a2 : T2) (a3 : T3) (a4 : T4) (a5 : T5) (a6 : T6) (a7 : T7) (a8 : T8) (a9 : T9) (a10 : T10) (a11 : T11) (a12 : T12) (a13 : T13) (a14 : T14) (a15 : T15) (a16 : T16) (a17 : T17) (a18 : T18) (a19 : T19), body again a1 a2 a3 a4 a5 a6 a7 a8 a9 a10 a11 a12 a13 a14 a15 a16 a17 a18 a19 → Gg a1 a2 a3 a4 a5 a6 a7 a8 a9 a10 a11 a12 a13 a14 a15 a16 a17 a18 a19) : Gg a1 a2 a3 a4 a5 a6 a7 a8 a9 a10 a11 a12 a13 a14 a15 a16 a17 a18 a19 := by
  obtain ⟨n, h⟩ := h
  induction n generalizing a1 a2 a3 a4 a5 a6 a7 a8 a9 a10 a11 a12 a13 a14 a15 a16 a17 a18 a19 with
  | zero => exact h.elim
  | succ n ih => exact step (lz19 body n) (fun a1 a2 a3 a4 a5 a6 a7 a8 a9 a10 a11 a12 a13 a14 a15 a16 a17 a18 a19 h => ih h) a1 a2 a3 a4 a5 a6 a7 a8 a9 a10 a11 a12 a13 a14 a15 a16 a17 a18 a19 h
theorem Lz19_gr {T1 T2 T3 T4 T5 T6 T7 T8 T9 T10 T11 T12 T13 T14 T15 T16 T17 T18 T19 : Type} {body : (T1 → T2 → T3 → T4 → T5 → T6 → T7 → T8 → T9 → T10 → T11 → T12 → T13 → T14 → T15 → T16 → T17 → T18 → T19 → Prop) → T1 → T2 → T3 → T4 → T5 → T6 → T7 → T8 → T9 → T10 → T11 → T12 → T13 → T14 → T15 → T16 → T17 → T18 → T19 → Prop} {Gg : T1 → T2 → T3 → T4 → T5 → T6 → T7 → T8 → T9 → T10 → T11 → T12 → T13 → T14 → T15 → T16 → T17 → T18 → T19 → Prop} (step : ∀ (again : T1 → T2 → T3 → T4 → T5 → T6 → T7 → T8 → T9 → T10 → T11 → T12 → T13 → T14 → T15 → T16 → T17 → T18 → T19 → Prop), (∀ (a1 : T1) (a2 : T2) (a3 : T3) (a4 : T4) (a5 : T5) (a6 : T6) (a7 : T7) (a8 : T8) (a9 : T9) (a10 : T10) (a11 : T11) (a12 : T12) (a13 : T13) (a14 : T14) (a15 : T15) (a16 : T16) (a17 : T17) (a18 : T18) (a19 : T19), again a1 a2 a3 a4 a5 a6 a7 a8 a9 a10 a11 a12 a13 a14 a15 a16 a17 a18 a19 → Gg a1 a2 a3 a4 a5 a6 a7 a8 a9 a10 a11 a12 a13 a14 a15 a16 a17 a18 a19) → ∀ (a1 : T1) (a2 : T2) (a3 : T3) (a4 : T4) (a5 : T5) (a6 : T6) (a7 : T7) (a8 : T8) (a9 : T9) (a10 : T10) (a11 : T11) (a12 : T12) (a13 : T13) (a14 : T14) (a15 : T15) (a16 : T16) (a17 : T17) (a18 : T18) (a19 : T19), body again a1 a2 a3 a4 a5 a6 a7 a8 a9 a10 a11 a12 a13 a14 a15 a16 a17 a18 a19 → Gg a1 a2 a3 a4 a5 a6 a7 a8 a9 a10 a11 a12 a13 a14 a15 a16 a17 a18 a19) : ∀ (a1 : T1) (a2 : T2) (a3 : T3) (a4 : T4) (a5 : T5) (a6 : T6) (a7 : T7) (a8 : T8) (a9 : T9) (a10 : T10) (a11 : T11) (a12 : T12) (a13 : T13) (a14 : T14) (a15 : T15) (a16 : T16) (a17 : T17) (a18 : T18) (a19 : T19), Lz19 body a1 a2 a3 a4 a5 a6 a7 a8 a9 a10 a11 a12 a13 a14 a15 a16 a17 a18 a19 → Gg a1 a2 a3 a4 a5 a6 a7 a8 a9 a10 a11 a12 a13 a14 a15 a16 a17 a18 a19 := fun a1 a2 a3 a4 a5 a6 a7 a8 a9 a10 a11 a12 a13 a14 a15 a16 a17 a18 a19 h => Lz19_go h step
theorem Lz19_by {T1 T2 T3 T4 T5 T6 T7 T8 T9 T10 T11 T12 T13 T14 T15 T16 T17 T18 T19 : Type} {body : (T1 → T2 → T3 → T4 → T5 → T6 → T7 → T8 → T9 → T10 → T11 → T12 → T13 → T14 → T15 → T16 → T17 → T18 → T19 → Prop) → T1 → T2 → T3 → T4 → T5 → T6 → T7 → T8 → T9 → T10 → T11 → T12 → T13 → T14 → T15 → T16 → T17 → T18 → T19 → Prop} (I : T1 → T2 → T3 → T4 → T5 → T6 → T7 → T8 → T9 → T10 → T11 → T12 → T13 → T14 → T15 → T16 → T17 → T18 → T19 → Prop) (μ : T1 → T2 → T3 → T4 → T5 → T6 → T7 → T8 → T9 → T10 → T11 → T12 → T13 → T14 → T15 → T16 → T17 → T18 → T19 → Nat) (a1 : T1) (a2 : T2) (a3 : T3) (a4 : T4) (a5 : T5) (a6 : T6) (a7 : T7) (a8 : T8) (a9 : T9) (a10 : T10) (a11 : T11) (a12 : T12) (a13 : T13) (a14 : T14) (a15 : T15) (a16 : T16) (a17 : T17) (a18 : T18) (a19 : T19) (h0 : I a1 a2 a3 a4 a5 a6 a7 a8 a9 a10 a11 a12 a13 a14 a15 a16 a17 a18 a19) (step : ∀ (a1 : T1) (a2 : T2) (a3 : T3) (a4 : T4) (a5 : T5) (a6 : T6) (a7 : T7) (a8 : T8) (a9 : T9) (a10 : T10) (a11 : T11) (a12 : T12) (a13 : T13) (a14 : T14) (a15 : T15) (a16 : T16) (a17 : T17) (a18 : T18) (a19 : T19), I a1 a2 a3 a4 a5 a6 a7 a8 a9 a10 a11 a12 a13 a14 a15 a16 a17 a18 a19 → ∀ (again : T1 → T2 → T3 → T4 → T5 → T6 → T7 → T8 → T9 → T10 → T11 → T12 → T13 → T14 → T15 → T16 → T17 → T18 → T19 → Prop), (∀ (b1 : T1) (b2 : T2) (b3 : T3) (b4 : T4) (b5 : T5) (b6 : T6) (b7 : T7) (b8 : T8) (b9 : T9) (b10 : T10) (b11 : T11) (b12 : T12) (b13 : T13) (b14 : T14) (b15 : T15) (b16 : T16) (b17 : T17) (b18 : T18) (b19 : T19), I b1 b2 b3 b4 b5 b6 b7 b8 b9 b10 b11 b12 b13 b14 b15 b16 b17 b18 b19 → μ b1 b2 b3 b4 b5 b6 b7 b8 b9 b10 b11 b12 b13 b14 b15 b16 b17 b18 b19 < μ a1 a2 a3 a4 a5 a6 a7 a8 a9 a10 a11 a12 a13 a14 a15 a16 a17 a18 a19 → again b1 b2 b3 b4 b5 b6 b7 b8 b9 b10 b11 b12 b13 b14 b15 b16 b17 b18 b19) → body again a1 a2 a3 a4 a5 a6 a7 a8 a9 a10 a11 a12 a13 a14 a15 a16 a17 a18 a19) : Lz19 body a1 a2 a3 a4 a5 a6 a7 a8 a9 a10 a11 a12 a13 a14 a15 a16 a17 a18 a19 := by
  have key : ∀ (n : Nat) (a1 : T1) (a2 : T2) (a3 : T3) (a4 : T4) (a5 : T5) (a6 : T6) (a7 : T7) (a8 : T8) (a9 : T9) (a10 : T10) (a11 : T11) (a12 : T12) (a13 : T13) (a14 : T14) (a15 : T15) (a16 : T16) (a17 : T17) (a18 : T18) (a19 : T19), I a1 a2 a3 a4 a5 a6 a7 a8 a9 a10 a11 a12 a13 a14 a15 a16 a17 a18 a19 → μ a1 a2 a3 a4 a5 a6 a7 a8 a9 a10 a11 a12 a13 a14 a15 a16 a17 a18 a19 < n → lz19 body n a1 a2 a3 a4 a5 a6 a7 a8 a9 a10 a11 a12 a13 a14 a15 a16 a17 a18 a19 := by
    intro n
    induction n with
    | zero => intro a1 a2 a3 a4 a5 a6 a7 a8 a9 a10 a11 a12 a13 a14 a15 a16 a17 a18 a19 _ h; exact absurd h (Nat.not_lt_zero _)
    | succ n ih => intro a1 a2 a3 a4 a5 a6 a7 a8 a9 a10 a11 a12 a13 a14 a15 a16 a17 a18 a19 hI hm; exact step a1 a2 a3 a4 a5 a6 a7 a8 a9 a10 a11 a12 a13 a14 a15 a16 a17 a18 a19 hI (lz19 body n) (fun b1 b2 b3 b4 b5 b6 b7 b8 b9 b10 b11 b12 b13 b14 b15 b16 b17 b18 b19 hI2 hm2 => ih b1 b2 b3 b4 b5 b6 b7 b8 b9 b10 b11 b12 b13 b14 b15 b16 b17 b18 b19 hI2 (Nat.lt_of_lt_of_le hm2 (Nat.le_of_lt_succ hm)))
  exact ⟨_, key (μ a1 a2 a3 a4 a5 a6 a7 a8 a9 a10 a11 a12 a13 a14 a15 a16 a17 a18 a19 + 1) a1 a2 a3 a4 a5 a6 a7 a8 a9 a10 a11 a12 a13 a14 a15 a16 a17 a18 a19 h0 (Nat.lt_succ_self _)⟩
def lz20 {T1 T2 T3 T4 T5 T6 T7 T8 T9 T10 T11 T12 T13 T14 T15 T16 T17 T18 T19 T20 : Type} (body : (T1 → T2 → T3 → T4 → T5 → T6 → T7 → T8 → T9 → T10 → T11 → T12 → T13 → T14 → T15 → T16 → T17 → T18 → T19 → T20 → Prop) → T1 → T2 → T3 → T4 → T5 → T6 → T7 → T8 → T9 → T10 → T11 → T12 → T13 → T14 → T15 → T16 → T17 → T18 → T19 → T20 → Prop) : Nat → T1 → T2 → T3 → T4 → T5 → T6 → T7 → T8 → T9 → T10 → T11 → T12 → T13 → T14 → T15 → T16 → T17 → T18 → T19 → T20 → Prop
  | 0 => fun _ _ _ _ _ _ _ _ _ _ _ _ _ _ _ _ _ _ _ _ => False
  | n + 1 => body (lz20 body n)
def Lz20 {T1 T2 T3 T4 T5 T6 T7 T8 T9 T10 T11 T12 T13 T14 T15 T16 T17 T18 T19 T20 : Type} (body : (T1 → T2 → T3 → T4 → T5 → T6 → T7 → T8 → T9 → T10 → T11 → T12 → T13 → T14 → T15 → T16 → T17 → T18 → T19 → T20 → Prop) → T1 → T2 → T3 → T4 → T5 → T6 → T7 → T8 → T9 → T10 → T11 → T12 → T13 → T14 → T15 → T16 → T17 → T18 → T19 → T20 → Prop) (a1 : T1) (a2 : T2) (a3 : T3) (a4 : T4) (a5 : T5) (a6 : T6) (a7 : T7) (a8 : T8) (a9 : T9) (a10 : T10) (a11 : T11) (a12 : T12) (a13 : T13) (a14 : T14) (a15 : T15) (a16 : T16) (a17 : T17) (a18 : T18) (a19 : T19) (a20 : T20) : Prop := ∃ n, lz20 body n a1 a2 a3 a4 a5 a6 a7 a8 a9 a10 a11 a12 a13 a14 a15 a16 a17 a18 a19 a20
theorem Lz20_go {T1 T2 T3 T4 T5 T6 T7 T8 T9 T10 T11 T12 T13 T14 T15 T16 T17 T18 T19 T20 : Type} {body : (T1 → T2 → T3 → T4 → T5 → T6 → T7 → T8 → T9 → T10 → T11 → T12 → T13 → T14 → T15 → T16 → T17 → T18 → T19 → T20 → Prop) → T1 → T2 → T3 → T4 → T5 → T6 → T7 → T8 → T9 → T10 → T11 → T12 → T13 → T14 → T15 → T16 → T17 → T18 → T19 → T20 → Prop} {a1 : T1} {a2 : T2} {a3 : T3} {a4 : T4} {a5 : T5} {a6 : T6} {a7 : T7} {a8 : T8} {a9 : T9} {a10 : T10} {a11 : T11} {a12 : T12} {a13 : T13} {a14 : T14} {a15 : T15} {a16 : T16} {a17 : T17} {a18 : T18} {a19 : T19} {a20 : T20} {Gg : T1 → T2 → T3 → T4 → T5 → T6 → T7 → T8 → T9 → T10 → T11 → T12 → T13 → T14 → T15 → T16 → T17 → T18 → T19 → T20 → Prop} (h : Lz20 body a1 a2 a3 a4 a5 a6 a7 a8 a9 a10 a11 a12 a13 a14 a15 a16 a17 a18 a19 a20) (step : ∀ (again : T1 → T2 → T3 → T4 → T5 → T6 → T7 → T8 → T9 → T10 → T11 → T12 → T13 → T14 → T15 → T16 → T17 → T18 → T19 → T20 → Prop), (∀ (a1 : T1) (a2 : T2) (a3 : T3) (a4 : T4) (a5 : T5) (a6 : T6) (a7 : T7) (a8 : T8) (a9 : T9) (a10 : T10) (a11 : T11) (a12 : T12) (a13 : T13) (a14 : T14) (a15 : T15) (a16 : T16) (a17 : T17) (a18 : T18) (a19 : T19) (a20 : T20), again a1 a2 a3 a4 a5 a6 a7 a8 a9 a10 a11 a12 a13 a14 a15 a16 a17 a18 a19 a20 → Gg a1 a2 a3 a4 a5 a6 a7 a8 a9 a10 a11 a12 a13 a14 a15 a16 a17 a18 a19 a20) → ∀ (a1 : T1) (a2 : T2) (a3 : T3) (a4 : T4) (a5 : T5) (a6 : T6) (a7 : T7) (a8 : T8) (a9 : T9) (a10 : T10) (a11 : T11) (a12 : T12) (a13 : T13) (a14 : T14) (a15 : T15) (a16 : T16) (a17 : T17) (a18 : T18) (a19 : T19) (a20 : T20), body again a1 a2 a3 a4 a5 a6 a7 a8 a9 a10 a11 a12 a13 a14 a15 a16 a17 a18 a19 a20 → Gg a1 a2 a3 a4 a5 a6 a7 a8 a9 a10 a11 a12 a13 a14 a15 a16 a17 a18 a19 a20) : Gg a1 a2 a3 a4 a5 a6 a7 a8 a9 a10 a11 a12 a13 a14 a15 a16 a17 a18 a19 a20 := by
  obtain ⟨n, h⟩ := h
  induction n generalizing a1 a2 a3 a4 a5 a6 a7 a8 a9 a10 a11 a12 a13 a14 a15 a16 a17 a18 a19 a20 with
  | zero => exact h.elim
  | succ n ih => exact step (lz20 body n) (fun a1 a2 a3 a4 a5 a6 a7 a8 a9 a10 a11 a12 a13 a14 a15 a16 a17 a18 a19 a20 h => ih h) a1 a2 a3 a4 a5 a6 a7 a8 a9 a10 a11 a12 a13 a14 a15 a16 a17 a18 a19 a20 h
theorem Lz20_gr {T1 T2 T3 T4 T5 T6 T7 T8 T9 T10 T11 T12 T13 T14 T15 T16 T17 T18 T19 T20 : Type} {body : (T1 → T2 → T3 → T4 → T5 → T6 → T7 → T8 → T9 → T10 → T11 → T12 → T13 → T14 → T15 → T16 → T17 → T18 → T19 → T20 → Prop) → T1 → T2 → T3 → T4 → T5 → T6 → T7 → T8 → T9 → T10 → T11 → T12 → T13 → T14 → T15 → T16 → T17 → T18 → T19 → T20 → Prop} {Gg : T1 → T2 → T3 → T4 → T5 → T6 → T7 → T8 → T9 → T10 → T11 → T12 → T13 → T14 → T15 → T16 → T17 → T18 → T19 → T20 → Prop} (step : ∀ (again : T1 → T2 → T3 → T4 → T5 → T6 → T7 → T8 → T9 → T10 → T11 → T12 → T13 → T14 → T15 → T16 → T17 → T18 → T19 → T20 → Prop), (∀ (a1 : T1) (a2 : T2) (a3 : T3) (a4 : T4) (a5 : T5) (a6 : T6) (a7 : T7) (a8 : T8) (a9 : T9) (a10 : T10) (a11 : T11) (a12 : T12) (a13 : T13) (a14 : T14) (a15 : T15) (a16 : T16) (a17 : T17) (a18 : T18) (a19 : T19) (a20 : T20), again a1 a2 a3 a4 a5 a6 a7 a8 a9 a10 a11 a12 a13 a14 a15 a16 a17 a18 a19 a20 → Gg a1 a2 a3 a4 a5 a6 a7 a8 a9 a10 a11 a12 a13 a14 a15 a16 a17 a18 a19 a20) → ∀ (a1 : T1) (a2 : T2) (a3 : T3) (a4 : T4) (a5 : T5) (a6 : T6) (a7 : T7) (a8 : T8) (a9 : T9) (a10 : T10) (a11 : T11) (a12 : T12) (a13 : T13) (a14 : T14) (a15 : T15) (a16 : T16) (a17 : T17) (a18 : T18) (a19 : T19) (a20 : T20), body again a1 a2 a3 a4 a5 a6 a7 a8 a9 a10 a11 a12 a13 a14 a15 a16 a17 a18 a19 a20 → Gg a1 a2 a3 a4 a5 a6 a7 a8 a9 a10 a11 a12 a13 a14 a15 a16 a17 a18 a19 a20) : ∀ (a1 : T1) (a2 : T2) (a3 : T3) (a4 : T4) (a5 : T5) (a6 : T6) (a7 : T7) (a8 : T8) (a9 : T9) (a10 : T10) (a11 : T11) (a12 : T12) (a13 : T13) (a14 : T14) (a15 : T15) (a16 : T16) (a17 : T17) (a18 : T18) (a19 : T19) (a20 : T20), Lz20 body a1 a2 a3 a4 a5 a6 a7 a8 a9 a10 a11 a12 a13 a14 a15 a16 a17 a18 a19 a20 → Gg a1 a2 a3 a4 a5 a6 a7 a8 a9 a10 a11 a12 a13 a14 a15 a16 a17 a18 a19 a20 := fun a1 a2 a3 a4 a5 a6 a7 a8 a9 a10 a11 a12 a13 a14 a15 a16 a17 a18 a19 a20 h => Lz20_go h step
theorem Lz20_by {T1 T2 T3 T4 T5 T6 T7 T8 T9 T10 T11 T12 T13 T14 T15 T16 T17 T18 T19 T20 : Type} {body : (T1 → T2 → T3 → T4 → T5 → T6 → T7 → T8 → T9 → T10 → T11 → T12 → T13 → T14 → T15 → T16 → T17 → T18 → T19 → T20 → Prop) → T1 → T2 → T3 → T4 → T5 → T6 → T7 → T8 → T9 → T10 → T11 → T12 → T13 → T14 → T15 → T16 → T17 → T18 → T19 → T20 → Prop} (I : T1 → T2 → T3 → T4 → T5 → T6 → T7 → T8 → T9 → T10 → T11 → T12 → T13 → T14 → T15 → T16 → T17 → T18 → T19 → T20 → Prop) (μ : T1 → T2 → T3 → T4 → T5 → T6 → T7 → T8 → T9 → T10 → T11 → T12 → T13 → T14 → T15 → T16 → T17 → T18 → T19 → T20 → Nat) (a1 : T1) (a2 : T2) (a3 : T3) (a4 : T4) (a5 : T5) (a6 : T6) (a7 : T7) (a8 : T8) (a9 : T9) (a10 : T10) (a11 : T11) (a12 : T12) (a13 : T13) (a14 : T14) (a15 : T15) (a16 : T16) (a17 : T17) (a18 : T18) (a19 : T19) (a20 : T20) (h0 : I a1 a2 a3 a4 a5 a6 a7 a8 a9 a10 a11 a12 a13 a14 a15 a16 a17 a18 a19 a20) (step : ∀ (a1 : T1) (a2 : T2) (a3 : T3) (a4 : T4) (a5 : T5) (a6 : T6) (a7 : T7) (a8 : T8) (a9 : T9) (a10 : T10) (a11 : T11) (a12 : T12) (a13 : T13) (a14 : T14) (a15 : T15) (a16 : T16) (a17 : T17) (a18 : T18) (a19 : T19) (a20 : T20), I a1 a2 a3 a4 a5 a6 a7 a8 a9 a10 a11 a12 a13 a14 a15 a16 a17 a18 a19 a20 → ∀ (again : T1 → T2 → T3 → T4 → T5 → T6 → T7 → T8 → T9 → T10 → T11 → T12 → T13 → T14 → T15 → T16 → T17 → T18 → T19 → T20 → Prop), (∀ (b1 : T1) (b2 : T2) (b3 : T3) (b4 : T4) (b5 : T5) (b6 : T6) (b7 : T7) (b8 : T8) (b9 : T9) (b10 : T10) (b11 : T11) (b12 : T12) (b13 : T13) (b14 : T14) (b15 : T15) (b16 : T16) (b17 : T17) (b18 : T18) (b19 : T19) (b20 : T20), I b1 b2 b3 b4 b5 b6 b7 b8 b9 b10 b11 b12 b13 b14 b15 b16 b17 b18 b19 b20 → μ b1 b2 b3 b4 b5 b6 b7 b8 b9 b10 b11 b12 b13 b14 b15 b16 b17 b18 b19 b20 < μ a1 a2 a3 a4 a5 a6 a7 a8 a9 a10 a11 a12 a13 a14 a15 a16 a17 a18 a19 a20 → again b1 b2 b3 b4 b5 b6 b7 b8 b9 b10 b11 b12 b13 b14 b15 b16 b17 b18 b19 b20) → body again a1 a2 a3 a4 a5 a6 a7 a8 a9 a10 a11 a12 a13 a14 a15 a16 a17 a18 a19 a20) : Lz20 body a1 a2 a3 a4 a5 a6 a7 a8 a9 a10 a11 a12 a13 a14 a15 a16 a17 a18 a19 a20 := by
  have key : ∀ (n : Nat) (a1 : T1) (a2 : T2) (a3 : T3) (a4 : T4) (a5 : T5) (a6 : T6) (a7 : T7) (a8 : T8) (a9 : T9) (a10 : T10) (a11 : T11) (a12 : T12) (a13 : T13) (a14 : T14) (a15 : T15) (a16 : T16) (a17 : T17) (a18 : T18) (a19 : T19) (a20 : T20), I a1 a2 a3 a4 a5 a6 a7 a8 a9 a10 a11 a12 a13 a14 a15 a16 a17 a18 a19 a20 → μ a1 a2 a3 a4 a5 a6 a7 a8 a9 a10 a11 a12 a13 a14 a15 a16 a17 a18 a19 a20 < n → lz20 body n a1 a2 a3 a4 a5 a6 a7 a8 a9 a10 a11 a12 a13 a14 a15 a16 a17 a18 a19 a20 := by
    intro n
    induction n with
    | zero => intro a1 a2 a3 a4 a5 a6 a7 a8 a9 a10 a11 a12 a13 a14 a15 a16 a17 a18 a19 a20 _ h; exact absurd h (Nat.not_lt_zero _)
    | succ n ih => intro a1 a2 a3 a4 a5 a6 a7 a8 a9 a10 a11 a12 a13 a14 a15 a16 a17 a18 a19 a20 hI hm; exact step a1 a2 a3 a4 a5 a6 a7 a8 a9 a10 a11 a12 a13 a14 a15 a16 a17 a18 a19 a20 hI (lz20 body n) (fun b1 b2 b3 b4 b5 b6 b7 b8 b9 b10 b11 b12 b13 b14 b15 b16 b17 b18 b19 b20 hI2 hm2 => ih b1 b2 b3 b4 b5 b6 b7 b8 b9 b10 b11 b12 b13 b14 b15 b16 b17 b18 b19 b20 hI2 (Nat.lt_of_lt_of_le hm2 (Nat.le_of_lt_succ hm)))
  exact ⟨_, key (μ a1 a2 a3 a4 a5 a6 a7 a8 a9 a10 a11 a12 a13 a14 a15 a16 a17 a18 a19 a20 + 1) a1 a2 a3 a4 a5 a6 a7 a8 a9 a10 a11 a12 a13 a14 a15 a16 a17 a18 a19 a20 h0 (Nat.lt_succ_self _)⟩
/-- a loop whose state at its k-th turn is told ahead -/
theorem Lz1_for {T1 : Type} {body : (T1 → Prop) → T1 → Prop} {a1 : T1} (N : Nat) (F1 : Nat → T1) (e1 : a1 = F1 0) (step : ∀ k, k ≤ N → ∀ again : T1 → Prop, (k < N → again (F1 (k + 1))) → body again (F1 k)) : Lz1 body a1 := by
  have key : ∀ d k, k ≤ N → N - k = d → lz1 body (d + 1) (F1 k) := by
    intro d
    induction d with
    | zero => intro k hk hd; exact step k hk _ (fun h => absurd h (by omega))
    | succ d ih => intro k hk hd; exact step k hk _ (fun h => ih (k + 1) h (by omega))
  subst e1
  exact ⟨_, key N 0 (Nat.zero_le _) (Nat.sub_zero N)⟩
/-- a loop whose state at its k-th turn is told ahead -/
theorem Lz2_for {T1 T2 : Type} {body : (T1 → T2 → Prop) → T1 → T2 → Prop} {a1 : T1} {a2 : T2} (N : Nat) (F1 : Nat → T1) (F2 : Nat → T2) (e1 : a1 = F1 0) (e2 : a2 = F2 0) (step : ∀ k, k ≤ N → ∀ again : T1 → T2 → Prop, (k < N → again (F1 (k + 1)) (F2 (k + 1))) → body again (F1 k) (F2 k)) : Lz2 body a1 a2 := by
  have key : ∀ d k, k ≤ N → N - k = d → lz2 body (d + 1) (F1 k) (F2 k) := by
    intro d
    induction d with
    | zero => intro k hk hd; exact step k hk _ (fun h => absurd h (by omega))
    | succ d ih => intro k hk hd; exact step k hk _ (fun h => ih (k + 1) h (by omega))
  subst e1 e2
  exact ⟨_, key N 0 (Nat.zero_le _) (Nat.sub_zero N)⟩
/-- a loop whose state at its k-th turn is told ahead -/
theorem Lz3_for {T1 T2 T3 : Type} {body : (T1 → T2 → T3 → Prop) → T1 → T2 → T3 → Prop} {a1 : T1} {a2 : T2} {a3 : T3} (N : Nat) (F1 : Nat → T1) (F2 : Nat → T2) (F3 : Nat → T3) (e1 : a1 = F1 0) (e2 : a2 = F2 0) (e3 : a3 = F3 0) (step : ∀ k, k ≤ N → ∀ again : T1 → T2 → T3 → Prop, (k < N → again (F1 (k + 1)) (F2 (k + 1)) (F3 (k + 1))) → body again (F1 k) (F2 k) (F3 k)) : Lz3 body a1 a2 a3 := by
  have key : ∀ d k, k ≤ N → N - k = d → lz3 body (d + 1) (F1 k) (F2 k) (F3 k) := by
    intro d
    induction d with
    | zero => intro k hk hd; exact step k hk _ (fun h => absurd h (by omega))
    | succ d ih => intro k hk hd; exact step k hk _ (fun h => ih (k + 1) h (by omega))
  subst e1 e2 e3
  exact ⟨_, key N 0 (Nat.zero_le _) (Nat.sub_zero N)⟩
/-- a loop whose state at its k-th turn is told ahead -/
theorem Lz4_for {T1 T2 T3 T4 : Type} {body : (T1 → T2 → T3 → T4 → Prop) → T1 → T2 → T3 → T4 → Prop} {a1 : T1} {a2 : T2} {a3 : T3} {a4 : T4} (N : Nat) (F1 : Nat → T1) (F2 : Nat → T2) (F3 : Nat → T3) (F4 : Nat → T4) (e1 : a1 = F1 0) (e2 : a2 = F2 0) (e3 : a3 = F3 0) (e4 : a4 = F4 0) (step : ∀ k, k ≤ N → ∀ again : T1 → T2 → T3 → T4 → Prop, (k < N → again (F1 (k + 1)) (F2 (k + 1)) (F3 (k + 1)) (F4 (k + 1))) → body again (F1 k) (F2 k) (F3 k) (F4 k)) : Lz4 body a1 a2 a3 a4 := by
  have key : ∀ d k, k ≤ N → N - k = d → lz4 body (d + 1) (F1 k) (F2 k) (F3 k) (F4 k) := by
    intro d
    induction d with
    | zero => intro k hk hd; exact step k hk _ (fun h => absurd h (by omega))
    | succ d ih => intro k hk hd; exact step k hk _ (fun h => ih (k + 1) h (by omega))
  subst e1 e2 e3 e4
  exact ⟨_, key N 0 (Nat.zero_le _) (Nat.sub_zero N)⟩
/-- a loop whose state at its k-th turn is told ahead -/
theorem Lz5_for {T1 T2 T3 T4 T5 : Type} {body : (T1 → T2 → T3 → T4 → T5 → Prop) → T1 → T2 → T3 → T4 → T5 → Prop} {a1 : T1} {a2 : T2} {a3 : T3} {a4 : T4} {a5 : T5} (N : Nat) (F1 : Nat → T1) (F2 : Nat → T2) (F3 : Nat → T3) (F4 : Nat → T4) (F5 : Nat → T5) (e1 : a1 = F1 0) (e2 : a2 = F2 0) (e3 : a3 = F3 0) (e4 : a4 = F4 0) (e5 : a5 = F5 0) (step : ∀ k, k ≤ N → ∀ again : T1 → T2 → T3 → T4 → T5 → Prop, (k < N → again (F1 (k + 1)) (F2 (k + 1)) (F3 (k + 1)) (F4 (k + 1)) (F5 (k + 1))) → body again (F1 k) (F2 k) (F3 k) (F4 k) (F5 k)) : Lz5 body a1 a2 a3 a4 a5 := by
  have key : ∀ d k, k ≤ N → N - k = d → lz5 body (d + 1) (F1 k) (F2 k) (F3 k) (F4 k) (F5 k) := by
    intro d
    induction d with
    | zero => intro k hk hd; exact step k hk _ (fun h => absurd h (by omega))
    | succ d ih => intro k hk hd; exact step k hk _ (fun h => ih (k + 1) h (by omega))
  subst e1 e2 e3 e4 e5
  exact ⟨_, key N 0 (Nat.zero_le _) (Nat.sub_zero N)⟩
/-- a loop whose state at its k-th turn is told ahead -/
theorem Lz6_for {T1 T2 T3 T4 T5 T6 : Type} {body : (T1 → T2 → T3 → T4 → T5 → T6 → Prop) → T1 → T2 → T3 → T4 → T5 → T6 → Prop} {a1 : T1} {a2 : T2} {a3 : T3} {a4 : T4} {a5 : T5} {a6 : T6} (N : Nat) (F1 : Nat → T1) (F2 : Nat → T2) (F3 : Nat → T3) (F4 : Nat → T4) (F5 : Nat → T5) (F6 : Nat → T6) (e1 : a1 = F1 0) (e2 : a2 = F2 0) (e3 : a3 = F3 0) (e4 : a4 = F4 0) (e5 : a5 = F5 0) (e6 : a6 = F6 0) (step : ∀ k, k ≤ N → ∀ again : T1 → T2 → T3 → T4 → T5 → T6 → Prop, (k < N → again (F1 (k + 1)) (F2 (k + 1)) (F3 (k + 1)) (F4 (k + 1)) (F5 (k + 1)) (F6 (k + 1))) → body again (F1 k) (F2 k) (F3 k) (F4 k) (F5 k) (F6 k)) : Lz6 body a1 a2 a3 a4 a5 a6 := by
  have key : ∀ d k, k ≤ N → N - k = d → lz6 body (d + 1) (F1 k) (F2 k) (F3 k) (F4 k) (F5 k) (F6 k) := by
    intro d
    induction d with
    | zero => intro k hk hd; exact step k hk _ (fun h => absurd h (by omega))
    | succ d ih => intro k hk hd; exact step k hk _ (fun h => ih (k + 1) h (by omega))
  subst e1 e2 e3 e4 e5 e6
  exact ⟨_, key N 0 (Nat.zero_le _) (Nat.sub_zero N)⟩
/-- a loop whose state at its k-th turn is told ahead -/
theorem Lz7_for {T1 T2 T3 T4 T5 T6 T7 : Type} {body : (T1 → T2 → T3 → T4 → T5 → T6 → T7 → Prop) → T1 → T2 → T3 → T4 → T5 → T6 → T7 → Prop} {a1 : T1} {a2 : T2} {a3 : T3} {a4 : T4} {a5 : T5} {a6 : T6} {a7 : T7} (N : Nat) (F1 : Nat → T1) (F2 : Nat → T2) (F3 : Nat → T3) (F4 : Nat → T4) (F5 : Nat → T5) (F6 : Nat → T6) (F7 : Nat → T7) (e1 : a1 = F1 0) (e2 : a2 = F2 0) (e3 : a3 = F3 0) (e4 : a4 = F4 0) (e5 : a5 = F5 0) (e6 : a6 = F6 0) (e7 : a7 = F7 0) (step : ∀ k, k ≤ N → ∀ again : T1 → T2 → T3 → T4 → T5 → T6 → T7 → Prop, (k < N → again (F1 (k + 1)) (F2 (k + 1)) (F3 (k + 1)) (F4 (k + 1)) (F5 (k + 1)) (F6 (k + 1)) (F7 (k + 1))) → body again (F1 k) (F2 k) (F3 k) (F4 k) (F5 k) (F6 k) (F7 k)) : Lz7 body a1 a2 a3 a4 a5 a6 a7 := by
  have key : ∀ d k, k ≤ N → N - k = d → lz7 body (d + 1) (F1 k) (F2 k) (F3 k) (F4 k) (F5 k) (F6 k) (F7 k) := by
    intro d
    induction d with
    | zero => intro k hk hd; exact step k hk _ (fun h => absurd h (by omega))
    | succ d ih => intro k hk hd; exact step k hk _ (fun h => ih (k + 1) h (by omega))
  subst e1 e2 e3 e4 e5 e6 e7
  exact ⟨_, key N 0 (Nat.zero_le _) (Nat.sub_zero N)⟩
/-- a loop whose state at its k-th turn is told ahead -/
theorem Lz8_for {T1 T2 T3 T4 T5 T6 T7 T8 : Type} {body : (T1 → T2 → T3 → T4 → T5 → T6 → T7 → T8 → Prop) → T1 → T2 → T3 → T4 → T5 → T6 → T7 → T8 → Prop} {a1 : T1} {a2 : T2} {a3 : T3} {a4 : T4} {a5 : T5} {a6 : T6} {a7 : T7} {a8 : T8} (N : Nat) (F1 : Nat → T1) (F2 : Nat → T2) (F3 : Nat → T3) (F4 : Nat → T4) (F5 : Nat → T5) (F6 : Nat → T6) (F7 : Nat → T7) (F8 : Nat → T8) (e1 : a1 = F1 0) (e2 : a2 = F2 0) (e3 : a3 = F3 0) (e4 : a4 = F4 0) (e5 : a5 = F5 0) (e6 : a6 = F6 0) (e7 : a7 = F7 0) (e8 : a8 = F8 0) (step : ∀ k, k ≤ N → ∀ again : T1 → T2 → T3 → T4 → T5 → T6 → T7 → T8 → Prop, (k < N → again (F1 (k + 1)) (F2 (k + 1)) (F3 (k + 1)) (F4 (k + 1)) (F5 (k + 1)) (F6 (k + 1)) (F7 (k + 1)) (F8 (k + 1))) → body again (F1 k) (F2 k) (F3 k) (F4 k) (F5 k) (F6 k) (F7 k) (F8 k)) : Lz8 body a1 a2 a3 a4 a5 a6 a7 a8 := by
  have key : ∀ d k, k ≤ N → N - k = d → lz8 body (d + 1) (F1 k) (F2 k) (F3 k) (F4 k) (F5 k) (F6 k) (F7 k) (F8 k) := by
    intro d
    induction d with
    | zero => intro k hk hd; exact step k hk _ (fun h => absurd h (by omega))
    | succ d ih => intro k hk hd; exact step k hk _ (fun h => ih (k + 1) h (by omega))
  subst e1 e2 e3 e4 e5 e6 e7 e8
  exact ⟨_, key N 0 (Nat.zero_le _) (Nat.sub_zero N)⟩
/-- a loop whose state at its k-th turn is told ahead -/
theorem Lz9_for {T1 T2 T3 T4 T5 T6 T7 T8 T9 : Type} {body : (T1 → T2 → T3 → T4 → T5 → T6 → T7 → T8 → T9 → Prop) → T1 → T2 → T3 → T4 → T5 → T6 → T7 → T8 → T9 → Prop} {a1 : T1} {a2 : T2} {a3 : T3} {a4 : T4} {a5 : T5} {a6 : T6} {a7 : T7} {a8 : T8} {a9 : T9} (N : Nat) (F1 : Nat → T1) (F2 : Nat → T2) (F3 : Nat → T3) (F4 : Nat → T4) (F5 : Nat → T5) (F6 : Nat → T6) (F7 : Nat → T7) (F8 : Nat → T8) (F9 : Nat → T9) (e1 : a1 = F1 0) (e2 : a2 = F2 0) (e3 : a3 = F3 0) (e4 : a4 = F4 0) (e5 : a5 = F5 0) (e6 : a6 = F6 0) (e7 : a7 = F7 0) (e8 : a8 = F8 0) (e9 : a9 = F9 0) (step : ∀ k, k ≤ N → ∀ again : T1 → T2 → T3 → T4 → T5 → T6 → T7 → T8 → T9 → Prop, (k < N → again (F1 (k + 1)) (F2 (k + 1)) (F3 (k + 1)) (F4 (k + 1)) (F5 (k + 1)) (F6 (k + 1)) (F7 (k + 1)) (F8 (k + 1)) (F9 (k + 1))) → body again (F1 k) (F2 k) (F3 k) (F4 k) (F5 k) (F6 k) (F7 k) (F8 k) (F9 k)) : Lz9 body a1 a2 a3 a4 a5 a6 a7 a8 a9 := by
  have key : ∀ d k, k ≤ N → N - k = d → lz9 body (d + 1) (F1 k) (F2 k) (F3 k) (F4 k) (F5 k) (F6 k) (F7 k) (F8 k) (F9 k) := by
    intro d
    induction d with
    | zero => intro k hk hd; exact step k hk _ (fun h => absurd h (by omega))
    | succ d ih => intro k hk hd; exact step k hk _ (fun h => ih (k + 1) h (by omega))
  subst e1 e2 e3 e4 e5 e6 e7 e8 e9
  exact ⟨_, key N 0 (Nat.zero_le _) (Nat.sub_zero N)⟩
/-- a loop whose state at its k-th turn is told ahead -/
theorem Lz10_for {T1 T2 T3 T4 T5 T6 T7 T8 T9 T10 : Type} {body : (T1 → T2 → T3 → T4 → T5 → T6 → T7 → T8 → T9 → T10 → Prop) → T1 → T2 → T3 → T4 → T5 → T6 → T7 → T8 → T9 → T10 → Prop} {a1 : T1} {a2 : T2} {a3 : T3} {a4 : T4} {a5 : T5} {a6 : T6} {a7 : T7} {a8 : T8} {a9 : T9} {a10 : T10} (N : Nat) (F1 : Nat → T1) (F2 : Nat → T2) (F3 : Nat → T3) (F4 : Nat → T4) (F5 : Nat → T5) (F6 : Nat → T6) (F7 : Nat → T7) (F8 : Nat → T8) (F9 : Nat → T9) (F10 : Nat → T10) (e1 : a1 = F1 0) (e2 : a2 = F2 0) (e3 : a3 = F3 0) (e4 : a4 = F4 0) (e5 : a5 = F5 0) (e6 : a6 = F6 0) (e7 : a7 = F7 0) (e8 : a8 = F8 0) (e9 : a9 = F9 0) (e10 : a10 = F10 0) (step : ∀ k, k ≤ N → ∀ again : T1 → T2 → T3 → T4 → T5 → T6 → T7 → T8 → T9 → T10 → Prop, (k < N → again (F1 (k + 1)) (F2 (k + 1)) (F3 (k + 1)) (F4 (k + 1)) (F5 (k + 1)) (F6 (k + 1)) (F7 (k + 1)) (F8 (k + 1)) (F9 (k + 1)) (F10 (k + 1))) → body again (F1 k) (F2 k) (F3 k) (F4 k) (F5 k) (F6 k) (F7 k) (F8 k) (F9 k) (F10 k)) : Lz10 body a1 a2 a3 a4 a5 a6 a7 a8 a9 a10 := by
  have key : ∀ d k, k ≤ N → N - k = d → lz10 body (d + 1) (F1 k) (F2 k) (F3 k) (F4 k) (F5 k) (F6 k) (F7 k) (F8 k) (F9 k) (F10 k) := by
    intro d
    induction d with
    | zero => intro k hk hd; exact step k hk _ (fun h => absurd h (by omega))
    | succ d ih => intro k hk hd; exact step k hk _ (fun h => ih (k + 1) h (by omega))
  subst e1 e2 e3 e4 e5 e6 e7 e8 e9 e10
  exact ⟨_, key N 0 (Nat.zero_le _) (Nat.sub_zero N)⟩
/-- a loop whose state at its k-th turn is told ahead -/
theorem Lz11_for {T1 T2 T3 T4 T5 T6 T7 T8 T9 T10 T11 : Type} {body : (T1 → T2 → T3 → T4 → T5 → T6 → T7 → T8 → T9 → T10 → T11 → Prop) → T1 → T2 → T3 → T4 → T5 → T6 → T7 → T8 → T9 → T10 → T11 → Prop} {a1 : T1} {a2 : T2} {a3 : T3} {a4 : T4} {a5 : T5} {a6 : T6} {a7 : T7} {a8 : T8} {a9 : T9} {a10 : T10} {a11 : T11} (N : Nat) (F1 : Nat → T1) (F2 : Nat → T2) (F3 : Nat → T3) (F4 : Nat → T4) (F5 : Nat → T5) (F6 : Nat → T6) (F7 : Nat → T7) (F8 : Nat → T8) (F9 : Nat → T9) (F10 : Nat → T10) (F11 : Nat → T11) (e1 : a1 = F1 0) (e2 : a2 = F2 0) (e3 : a3 = F3 0) (e4 : a4 = F4 0) (e5 : a5 = F5 0) (e6 : a6 = F6 0) (e7 : a7 = F7 0) (e8 : a8 = F8 0) (e9 : a9 = F9 0) (e10 : a10 = F10 0) (e11 : a11 = F11 0) (step : ∀ k, k ≤ N → ∀ again : T1 → T2 → T3 → T4 → T5 → T6 → T7 → T8 → T9 → T10 → T11 → Prop, (k < N → again (F1 (k + 1)) (F2 (k + 1)) (F3 (k + 1)) (F4 (k + 1)) (F5 (k + 1)) (F6 (k + 1)) (F7 (k + 1)) (F8 (k + 1)) (F9 (k + 1)) (F10 (k + 1)) (F11 (k + 1))) → body again (F1 k) (F2 k) (F3 k) (F4 k) (F5 k) (F6 k) (F7 k) (F8 k) (F9 k) (F10 k) (F11 k)) : Lz11 body a1 a2 a3 a4 a5 a6 a7 a8 a9 a10 a11 := by
  have key : ∀ d k, k ≤ N → N - k = d → lz11 body (d + 1) (F1 k) (F2 k) (F3 k) (F4 k) (F5 k) (F6 k) (F7 k) (F8 k) (F9 k) (F10 k) (F11 k) := by
    intro d
    induction d with
    | zero => intro k hk hd; exact step k hk _ (fun h => absurd h (by omega))
    | succ d ih => intro k hk hd; exact step k hk _ (fun h => ih (k + 1) h (by omega))
  subst e1 e2 e3 e4 e5 e6 e7 e8 e9 e10 e11
  exact ⟨_, key N 0 (Nat.zero_le _) (Nat.sub_zero N)⟩
/-- a loop whose state at its k-th turn is told ahead -/
theorem Lz12_for {T1 T2 T3 T4 T5 T6 T7 T8 T9 T10 T11 T12 : Type} {body : (T1 → T2 → T3 → T4 → T5 → T6 → T7 → T8 → T9 → T10 → T11 → T12 → Prop) → T1 → T2 → T3 → T4 → T5 → T6 → T7 → T8 → T9 → T10 → T11 → T12 → Prop} {a1 : T1} {a2 : T2} {a3 : T3} {a4 : T4} {a5 : T5} {a6 : T6} {a7 : T7} {a8 : T8} {a9 : T9} {a10 : T10} {a11 : T11} {a12 : T12} (N : Nat) (F1 : Nat → T1) (F2 : Nat → T2) (F3 : Nat → T3) (F4 : Nat → T4) (F5 : Nat → T5) (F6 : Nat → T6) (F7 : Nat → T7) (F8 : Nat → T8) (F9 : Nat → T9) (F10 : Nat → T10) (F11 : Nat → T11) (F12 : Nat → T12) (e1 : a1 = F1 0) (e2 : a2 = F2 0) (e3 : a3 = F3 0) (e4 : a4 = F4 0) (e5 : a5 = F5 0) (e6 : a6 = F6 0) (e7 : a7 = F7 0) (e8 : a8 = F8 0) (e9 : a9 = F9 0) (e10 : a10 = F10 0) (e11 : a11 = F11 0) (e12 : a12 = F12 0) (step : ∀ k, k ≤ N → ∀ again : T1 → T2 → T3 → T4 → T5 → T6 → T7 → T8 → T9 → T10 → T11 → T12 → Prop, (k < N → again (F1 (k + 1)) (F2 (k + 1)) (F3 (k + 1)) (F4 (k + 1)) (F5 (k + 1)) (F6 (k + 1)) (F7 (k + 1)) (F8 (k + 1)) (F9 (k + 1)) (F10 (k + 1)) (F11 (k + 1)) (F12 (k + 1))) → body again (F1 k) (F2 k) (F3 k) (F4 k) (F5 k) (F6 k) (F7 k) (F8 k) (F9 k) (F10 k) (F11 k) (F12 k)) : Lz12 body a1 a2 a3 a4 a5 a6 a7 a8 a9 a10 a11 a12 := by
  have key : ∀ d k, k ≤ N → N - k = d → lz12 body (d + 1) (F1 k) (F2 k) (F3 k) (F4 k) (F5 k) (F6 k) (F7 k) (F8 k) (F9 k) (F10 k) (F11 k) (F12 k) := by
    intro d
    induction d with
    | zero => intro k hk hd; exact step k hk _ (fun h => absurd h (by omega))
    | succ d ih => intro k hk hd; exact step k hk _ (fun h => ih (k + 1) h (by omega))
  subst e1 e2 e3 e4 e5 e6 e7 e8 e9 e10 e11 e12
  exact ⟨_, key N 0 (Nat.zero_le _) (Nat.sub_zero N)⟩
/-- a loop whose state at its k-th turn is told ahead -/
theorem Lz13_for {T1 T2 T3 T4 T5 T6 T7 T8 T9 T10 T11 T12 T13 : Type} {body : (T1 → T2 → T3 → T4 → T5 → T6 → T7 → T8 → T9 → T10 → T11 → T12 → T13 → Prop) → T1 → T2 → T3 → T4 → T5 → T6 → T7 → T8 → T9 → T10 → T11 → T12 → T13 → Prop} {a1 : T1} {a2 : T2} {a3 : T3} {a4 : T4} {a5 : T5} {a6 : T6} {a7 : T7} {a8 : T8} {a9 : T9} {a10 : T10} {a11 : T11} {a12 : T12} {a13 : T13} (N : Nat) (F1 : Nat → T1) (F2 : Nat → T2) (F3 : Nat → T3) (F4 : Nat → T4) (F5 : Nat → T5) (F6 : Nat → T6) (F7 : Nat → T7) (F8 : Nat → T8) (F9 : Nat → T9) (F10 : Nat → T10) (F11 : Nat → T11) (F12 : Nat → T12) (F13 : Nat → T13) (e1 : a1 = F1 0) (e2 : a2 = F2 0) (e3 : a3 = F3 0) (e4 : a4 = F4 0) (e5 : a5 = F5 0) (e6 : a6 = F6 0) (e7 : a7 = F7 0) (e8 : a8 = F8 0) (e9 : a9 = F9 0) (e10 : a10 = F10 0) (e11 : a11 = F11 0) (e12 : a12 = F12 0) (e13 : a13 = F13 0) (step : ∀ k, k ≤ N → ∀ again : T1 → T2 → T3 → T4 → T5 → T6 → T7 → T8 → T9 → T10 → T11 → T12 → T13 → Prop, (k < N → again (F1 (k + 1)) (F2 (k + 1)) (F3 (k + 1)) (F4 (k + 1)) (F5 (k + 1)) (F6 (k + 1)) (F7 (k + 1)) (F8 (k + 1)) (F9 (k + 1)) (F10 (k + 1)) (F11 (k + 1)) (F12 (k + 1)) (F13 (k + 1))) → body again (F1 k) (F2 k) (F3 k) (F4 k) (F5 k) (F6 k) (F7 k) (F8 k) (F9 k) (F10 k) (F11 k) (F12 k) (F13 k)) : Lz13 body a1 a2 a3 a4 a5 a6 a7 a8 a9 a10 a11 a12 a13 := by
  have key : ∀ d k, k ≤ N → N - k = d → lz13 body (d + 1) (F1 k) (F2 k) (F3 k) (F4 k) (F5 k) (F6 k) (F7 k) (F8 k) (F9 k) (F10 k) (F11 k) (F12 k) (F13 k) := by
    intro d
    induction d with
    | zero => intro k hk hd; exact step k hk _ (fun h => absurd h (by omega))
    | succ d ih => intro k hk hd; exact step k hk _ (fun h => ih (k + 1) h (by omega))
  subst e1 e2 e3 e4 e5 e6 e7 e8 e9 e10 e11 e12 e13
  exact ⟨_, key N 0 (Nat.zero_le _) (Nat.sub_zero N)⟩
/-- a loop whose state at its k-th turn is told ahead -/
theorem Lz14_for {T1 T2 T3 T4 T5 T6 T7 T8 T9 T10 T11 T12 T13 T14 : Type} {body : (T1 → T2 → T3 → T4 → T5 → T6 → T7 → T8 → T9 → T10 → T11 → T12 → T13 → T14 → Prop) → T1 → T2 → T3 → T4 → T5 → T6 → T7 → T8 → T9 → T10 → T11 → T12 → T13 → T14 → Prop} {a1 : T1} {a2 : T2} {a3 : T3} {a4 : T4} {a5 : T5} {a6 : T6} {a7 : T7} {a8 : T8} {a9 : T9} {a10 : T10} {a11 : T11} {a12 : T12} {a13 : T13} {a14 : T14} (N : Nat) (F1 : Nat → T1) (F2 : Nat → T2) (F3 : Nat → T3) (F4 : Nat → T4) (F5 : Nat → T5) (F6 : Nat → T6) (F7 : Nat → T7) (F8 : Nat → T8) (F9 : Nat → T9) (F10 : Nat → T10) (F11 : Nat → T11) (F12 : Nat → T12) (F13 : Nat → T13) (F14 : Nat → T14) (e1 : a1 = F1 0) (e2 : a2 = F2 0) (e3 : a3 = F3 0) (e4 : a4 = F4 0) (e5 : a5 = F5 0) (e6 : a6 = F6 0) (e7 : a7 = F7 0) (e8 : a8 = F8 0) (e9 : a9 = F9 0) (e10 : a10 = F10 0) (e11 : a11 = F11 0) (e12 : a12 = F12 0) (e13 : a13 = F13 0) (e14 : a14 = F14 0) (step : ∀ k, k ≤ N → ∀ again : T1 → T2 → T3 → T4 → T5 → T6 → T7 → T8 → T9 → T10 → T11 → T12 → T13 → T14 → Prop, (k < N → again (F1 (k + 1)) (F2 (k + 1)) (F3 (k + 1)) (F4 (k + 1)) (F5 (k + 1)) (F6 (k + 1)) (F7 (k + 1)) (F8 (k + 1)) (F9 (k + 1)) (F10 (k + 1)) (F11 (k + 1)) (F12 (k + 1)) (F13 (k + 1)) (F14 (k + 1))) → body again (F1 k) (F2 k) (F3 k) (F4 k) (F5 k) (F6 k) (F7 k) (F8 k) (F9 k) (F10 k) (F11 k) (F12 k) (F13 k) (F14 k)) : Lz14 body a1 a2 a3 a4 a5 a6 a7 a8 a9 a10 a11 a12 a13 a14 := by
  have key : ∀ d k, k ≤ N → N - k = d → lz14 body (d + 1) (F1 k) (F2 k) (F3 k) (F4 k) (F5 k) (F6 k) (F7 k) (F8 k) (F9 k) (F10 k) (F11 k) (F12 k) (F13 k) (F14 k) := by
    intro d
    induction d with
    | zero => intro k hk hd; exact step k hk _ (fun h => absurd h (by omega))
    | succ d ih => intro k hk hd; exact step k hk _ (fun h => ih (k + 1) h (by omega))
  subst e1 e2 e3 e4 e5 e6 e7 e8 e9 e10 e11 e12 e13 e14
  exact ⟨_, key N 0 (Nat.zero_le _) (Nat.sub_zero N)⟩
/-- a loop whose state at its k-th turn is told ahead -/
theorem Lz15_for {T1 T2 T3 T4 T5 T6 T7 T8 T9 T10 T11 T12 T13 T14 T15 : Type} {body : (T1 → T2 → T3 → T4 → T5 → T6 → T7 → T8 → T9 → T10 → T11 → T12 → T13 → T14 → T15 → Prop) → T1 → T2 → T3 → T4 → T5 → T6 → T7 → T8 → T9 → T10 → T11 → T12 → T13 → T14 → T15 → Prop} {a1 : T1} {a2 : T2} {a3 : T3} {a4 : T4} {a5 : T5} {a6 : T6} {a7 : T7} {a8 : T8} {a9 : T9} {a10 : T10} {a11 : T11} {a12 : T12} {a13 : T13} {a14 : T14} {a15 : T15} (N : Nat) (F1 : Nat → T1) (F2 : Nat → T2) (F3 : Nat → T3) (F4 : Nat → T4) (F5 : Nat → T5) (F6 : Nat → T6) (F7 : Nat → T7) (F8 : Nat → T8) (F9 : Nat → T9) (F10 : Nat → T10) (F11 : Nat → T11) (F12 : Nat → T12) (F13 : Nat → T13) (F14 : Nat → T14) (F15 : Nat → T15) (e1 : a1 = F1 0) (e2 : a2 = F2 0) (e3 : a3 = F3 0) (e4 : a4 = F4 0) (e5 : a5 = F5 0) (e6 : a6 = F6 0) (e7 : a7 = F7 0) (e8 : a8 = F8 0) (e9 : a9 = F9 0) (e10 : a10 = F10 0) (e11 : a11 = F11 0) (e12 : a12 = F12 0) (e13 : a13 = F13 0) (e14 : a14 = F14 0) (e15 : a15 = F15 0) (step : ∀ k, k ≤ N → ∀ again : T1 → T2 → T3 → T4 → T5 → T6 → T7 → T8 → T9 → T10 → T11 → T12 → T13 → T14 → T15 → Prop, (k < N → again (F1 (k + 1)) (F2 (k + 1)) (F3 (k + 1)) (F4 (k + 1)) (F5 (k + 1)) (F6 (k + 1)) (F7 (k + 1)) (F8 (k + 1)) (F9 (k + 1)) (F10 (k + 1)) (F11 (k + 1)) (F12 (k + 1)) (F13 (k + 1)) (F14 (k + 1)) (F15 (k + 1))) → body again (F1 k) (F2 k) (F3 k) (F4 k) (F5 k) (F6 k) (F7 k) (F8 k) (F9 k) (F10 k) (F11 k) (F12 k) (F13 k) (F14 k) (F15 k)) : Lz15 body a1 a2 a3 a4 a5 a6 a7 a8 a9 a10 a11 a12 a13 a14 a15 := by
  have key : ∀ d k, k ≤ N → N - k = d → lz15 body (d + 1) (F1 k) (F2 k) (F3 k) (F4 k) (F5 k) (F6 k) (F7 k) (F8 k) (F9 k) (F10 k) (F11 k) (F12 k) (F13 k) (F14 k) (F15 k) := by
    intro d
    induction d with
    | zero => intro k hk hd; exact step k hk _ (fun h => absurd h (by omega))
    | succ d ih => intro k hk hd; exact step k hk _ (fun h => ih (k + 1) h (by omega))
  subst e1 e2 e3 e4 e5 e6 e7 e8 e9 e10 e11 e12 e13 e14 e15
  exact ⟨_, key N 0 (Nat.zero_le _) (Nat.sub_zero N)⟩
/-- a loop whose state at its k-th turn is told ahead -/
theorem Lz16_for {T1 T2 T3 T4 T5 T6 T7 T8 T9 T10 T11 T12 T13 T14 T15 T16 : Type} {body : (T1 → T2 → T3 → T4 → T5 → T6 → T7 → T8 → T9 → T10 → T11 → T12 → T13 → T14 → T15 → T16 → Prop) → T1 → T2 → T3 → T4 → T5 → T6 → T7 → T8 → T9 → T10 → T11 → T12 → T13 → T14 → T15 → T16 → Prop} {a1 : T1} {a2 : T2} {a3 : T3} {a4 : T4} {a5 : T5} {a6 : T6} {a7 : T7} {a8 : T8} {a9 : T9} {a10 : T10} {a11 : T11} {a12 : T12} {a13 : T13} {a14 : T14} {a15 : T15} {a16 : T16} (N : Nat) (F1 : Nat → T1) (F2 : Nat → T2) (F3 : Nat → T3) (F4 : Nat → T4) (F5 : Nat → T5) (F6 : Nat → T6) (F7 : Nat → T7) (F8 : Nat → T8) (F9 : Nat → T9) (F10 : Nat → T10) (F11 : Nat → T11) (F12 : Nat → T12) (F13 : Nat → T13) (F14 : Nat → T14) (F15 : Nat → T15) (F16 : Nat → T16) (e1 : a1 = F1 0) (e2 : a2 = F2 0) (e3 : a3 = F3 0) (e4 : a4 = F4 0) (e5 : a5 = F5 0) (e6 : a6 = F6 0) (e7 : a7 = F7 0) (e8 : a8 = F8 0) (e9 : a9 = F9 0) (e10 : a10 = F10 0) (e11 : a11 = F11 0) (e12 : a12 = F12 0) (e13 : a13 = F13 0) (e14 : a14 = F14 0) (e15 : a15 = F15 0) (e16 : a16 = F16 0) (step : ∀ k, k ≤ N → ∀ again : T1 → T2 → T3 → T4 → T5 → T6 → T7 → T8 → T9 → T10 → T11 → T12 → T13 → T14 → T15 → T16 → Prop, (k < N → again (F1 (k + 1)) (F2 (k + 1)) (F3 (k + 1)) (F4 (k + 1)) (F5 (k + 1)) (F6 (k + 1)) (F7 (k + 1)) (F8 (k + 1)) (F9 (k + 1)) (F10 (k + 1)) (F11 (k + 1)) (F12 (k + 1)) (F13 (k + 1)) (F14 (k + 1)) (F15 (k + 1)) (F16 (k + 1))) → body again (F1 k) (F2 k) (F3 k) (F4 k) (F5 k) (F6 k) (F7 k) (F8 k) (F9 k) (F10 k) (F11 k) (F12 k) (F13 k) (F14 k) (F15 k) (F16 k)) : Lz16 body a1 a2 a3 a4 a5 a6 a7 a8 a9 a10 a11 a12 a13 a14 a15 a16 := by
  have key : ∀ d k, k ≤ N → N - k = d → lz16 body (d + 1) (F1 k) (F2 k) (F3 k) (F4 k) (F5 k) (F6 k) (F7 k) (F8 k) (F9 k) (F10 k) (F11 k) (F12 k) (F13 k) (F14 k) (F15 k) (F16 k) := by
    intro d
    induction d with
    | zero => intro k hk hd; exact step k hk _ (fun h => absurd h (by omega))
    | succ d ih => intro k hk hd; exact step k hk _ (fun h => ih (k + 1) h (by omega))
  subst e1 e2 e3 e4 e5 e6 e7 e8 e9 e10 e11 e12 e13 e14 e15 e16
  exact ⟨_, key N 0 (Nat.zero_le _) (Nat.sub_zero N)⟩
/-- a loop whose state at its k-th turn is told ahead -/
theorem Lz17_for {T1 T2 T3 T4 T5 T6 T7 T8 T9 T10 T11 T12 T13 T14 T15 T16 T17 : Type} {body : (T1 → T2 → T3 → T4 → T5 → T6 → T7 → T8 → T9 → T10 → T11 → T12 → T13 → T14 → T15 → T16 → T17 → Prop) → T1 → T2 → T3 → T4 → T5 → T6 → T7 → T8 → T9 → T10 → T11 → T12 → T13 → T14 → T15 → T16 → T17 → Prop} {a1 : T1} {a2 : T2} {a3 : T3} {a4 : T4} {a5 : T5} {a6 : T6} {a7 : T7} {a8 : T8} {a9 : T9} {a10 : T10} {a11 : T11} {a12 : T12} {a13 : T13} {a14 : T14} {a15 : T15} {a16 : T16} {a17 : T17} (N : Nat) (F1 : Nat → T1) (F2 : Nat → T2) (F3 : Nat → T3) (F4 : Nat → T4) (F5 : Nat → T5) (F6 : Nat → T6) (F7 : Nat → T7) (F8 : Nat → T8) (F9 : Nat → T9) (F10 : Nat → T10) (F11 : Nat → T11) (F12 : Nat → T12) (F13 : Nat → T13) (F14 : Nat → T14) (F15 : Nat → T15) (F16 : Nat → T16) (F17 : Nat → T17) (e1 : a1 = F1 0) (e2 : a2 = F2 0) (e3 : a3 = F3 0) (e4 : a4 = F4 0) (e5 : a5 = F5 0) (e6 : a6 = F6 0) (e7 : a7 = F7 0) (e8 : a8 = F8 0) (e9 : a9 = F9 0) (e10 : a10 = F10 0) (e11 : a11 = F11 0) (e12 : a12 = F12 0) (e13 : a13 = F13 0) (e14 : a14 = F14 0) (e15 : a15 = F15 0) (e16 : a16 = F16 0) (e17 : a17 = F17 0) (step : ∀ k, k ≤ N → ∀ again : T1 → T2 → T3 → T4 → T5 → T6 → T7 → T8 → T9 → T10 → T11 → T12 → T13 → T14 → T15 → T16 → T17 → Prop, (k < N → again (F1 (k + 1)) (F2 (k + 1)) (F3 (k + 1)) (F4 (k + 1)) (F5 (k + 1)) (F6 (k + 1)) (F7 (k + 1)) (F8 (k + 1)) (F9 (k + 1)) (F10 (k + 1)) (F11 (k + 1)) (F12 (k + 1)) (F13 (k + 1)) (F14 (k + 1)) (F15 (k + 1)) (F16 (k + 1)) (F17 (k + 1))) → body again (F1 k) (F2 k) (F3 k) (F4 k) (F5 k) (F6 k) (F7 k) (F8 k) (F9 k) (F10 k) (F11 k) (F12 k) (F13 k) (F14 k) (F15 k) (F16 k) (F17 k)) : Lz17 body a1 a2 a3 a4 a5 a6 a7 a8 a9 a10 a11 a12 a13 a14 a15 a16 a17 := by
  have key : ∀ d k, k ≤ N → N - k = d → lz17 body (d + 1) (F1 k) (F2 k) (F3 k) (F4 k) (F5 k) (F6 k) (F7 k) (F8 k) (F9 k) (F10 k) (F11 k) (F12 k) (F13 k) (F14 k) (F15 k) (F16 k) (F17 k) := by
    intro d
    induction d with
    | zero => intro k hk hd; exact step k hk _ (fun h => absurd h (by omega))
    | succ d ih => intro k hk hd; exact step k hk _ (fun h => ih (k + 1) h (by omega))
  subst e1 e2 e3 e4 e5 e6 e7 e8 e9 e10 e11 e12 e13 e14 e15 e16 e17
  exact ⟨_, key N 0 (Nat.zero_le _) (Nat.sub_zero N)⟩
/-- a loop whose state at its k-th turn is told ahead -/
theorem Lz18_for {T1 T2 T3 T4 T5 T6 T7 T8 T9 T10 T11 T12 T13 T14 T15 T16 T17 T18 : Type} {body : (T1 → T2 → T3 → T4 → T5 → T6 → T7 → T8 → T9 → T10 → T11 → T12 → T13 → T14 → T15 → T16 → T17 → T18 → Prop) → T1 → T2 → T3 → T4 → T5 → T6 → T7 → T8 → T9 → T10 → T11 → T12 → T13 → T14 → T15 → T16 → T17 → T18 → Prop} {a1 : T1} {a2 : T2} {a3 : T3} {a4 : T4} {a5 : T5} {a6 : T6} {a7 : T7} {a8 : T8} {a9 : T9} {a10 : T10} {a11 : T11} {a12 : T12} {a13 : T13} {a14 : T14} {a15 : T15} {a16 : T16} {a17 : T17} {a18 : T18} (N : Nat) (F1 : Nat → T1) (F2 : Nat → T2) (F3 : Nat → T3) (F4 : Nat → T4) (F5 : Nat → T5) (F6 : Nat → T6) (F7 : Nat → T7) (F8 : Nat → T8) (F9 : Nat → T9) (F10 : Nat → T10) (F11 : Nat → T11) (F12 : Nat → T12) (F13 : Nat → T13) (F14 : Nat → T14) (F15 : Nat → T15) (F16 : Nat → T16) (F17 : Nat → T17) (F18 : Nat → T18) (e1 : a1 = F1 0) (e2 : a2 = F2 0) (e3 : a3 = F3 0) (e4 : a4 = F4 0) (e5 : a5 = F5 0) (e6 : a6 = F6 0) (e7 : a7 = F7 0) (e8 : a8 = F8 0) (e9 : a9 = F9 0) (e10 : a10 = F10 0) (e11 : a11 = F11 0) (e12 : a12 = F12 0) (e13 : a13 = F13 0) (e14 : a14 = F14 0) (e15 : a15 = F15 0) (e16 : a16 = F16 0) (e17 : a17 = F17 0) (e18 : a18 = F18 0) (step : ∀ k, k ≤ N → ∀ again : T1 → T2 → T3 → T4 → T5 → T6 → T7 → T8 → T9 → T10 → T11 → T12 → T13 → T14 → T15 → T16 → T17 → T18 → Prop, (k < N → again (F1 (k + 1)) (F2 (k + 1)) (F3 (k + 1)) (F4 (k + 1)) (F5 (k + 1)) (F6 (k + 1)) (F7 (k + 1)) (F8 (k + 1)) (F9 (k + 1)) (F10 (k + 1)) (F11 (k + 1)) (F12 (k + 1)) (F13 (k + 1)) (F14 (k + 1)) (F15 (k + 1)) (F16 (k + 1)) (F17 (k + 1)) (F18 (k + 1))) → body again (F1 k) (F2 k) (F3 k) (F4 k) (F5 k) (F6 k) (F7 k) (F8 k) (F9 k) (F10 k) (F11 k) (F12 k) (F13 k) (F14 k) (F15 k) (F16 k) (F17 k) (F18 k)) : Lz18 body a1 a2 a3 a4 a5 a6 a7 a8 a9 a10 a11 a12 a13 a14 a15 a16 a17 a18 := by
  have key : ∀ d k, k ≤ N → N - k = d → lz18 body (d + 1) (F1 k) (F2 k) (F3 k) (F4 k) (F5 k) (F6 k) (F7 k) (F8 k) (F9 k) (F10 k) (F11 k) (F12 k) (F13 k) (F14 k) (F15 k) (F16 k) (F17 k) (F18 k) := by
    intro d
    induction d with
    | zero => intro k hk hd; exact step k hk _ (fun h => absurd h (by omega))
    | succ d ih => intro k hk hd; exact step k hk _ (fun h => ih (k + 1) h (by omega))
  subst e1 e2 e3 e4 e5 e6 e7 e8 e9 e10 e11 e12 e13 e14 e15 e16 e17 e18
  exact ⟨_, key N 0 (Nat.zero_le _) (Nat.sub_zero N)⟩
/-- a loop whose state at its k-th turn is told ahead -/
theorem Lz19_for {T1 T2 T3 T4 T5 T6 T7 T8 T9 T10 T11 T12 T13 T14 T15 T16 T17 T18 T19 : Type} {body : (T1 → T2 → T3 → T4 → T5 → T6 → T7 → T8 → T9 → T10 → T11 → T12 → T13 → T14 → T15 → T16 → T17 → T18 → T19 → Prop) → T1 → T2 → T3 → T4 → T5 → T6 → T7 → T8 → T9 → T10 → T11 → T12 → T13 → T14 → T15 → T16 → T17 → T18 → T19 → Prop} {a1 : T1} {a2 : T2} {a3 : T3} {a4 : T4} {a5 : T5} {a6 : T6} {a7 : T7} {a8 : T8} {a9 : T9} {a10 : T10} {a11 : T11} {a12 : T12} {a13 : T13} {a14 : T14} {a15 : T15} {a16 : T16} {a17 : T17} {a18 : T18} {a19 : T19} (N : Nat) (F1 : Nat → T1) (F2 : Nat → T2) (F3 : Nat → T3) (F4 : Nat → T4) (F5 : Nat → T5) (F6 : Nat → T6) (F7 : Nat → T7) (F8 : Nat → T8) (F9 : Nat → T9) (F10 : Nat → T10) (F11 : Nat → T11) (F12 : Nat → T12) (F13 : Nat → T13) (F14 : Nat → T14) (F15 : Nat → T15) (F16 : Nat → T16) (F17 : Nat → T17) (F18 : Nat → T18) (F19 : Nat → T19) (e1 : a1 = F1 0) (e2 : a2 = F2 0) (e3 : a3 = F3 0) (e4 : a4 = F4 0) (e5 : a5 = F5 0) (e6 : a6 = F6 0) (e7 : a7 = F7 0) (e8 : a8 = F8 0) (e9 : a9 = F9 0) (e10 : a10 = F10 0) (e11 : a11 = F11 0) (e12 : a12 = F12 0) (e13 : a13 = F13 0) (e14 : a14 = F14 0) (e15 : a15 = F15 0) (e16 : a16 = F16 0) (e17 : a17 = F17 0) (e18 : a18 = F18 0) (e19 : a19 = F19 0) (step : ∀ k, k ≤ N → ∀ again : T1 → T2 → T3 → T4 → T5 → T6 → T7 → T8 → T9 → T10 → T11 → T12 → T13 → T14 → T15 → T16 → T17 → T18 → T19 → Prop, (k < N → again (F1 (k + 1)) (F2 (k + 1)) (F3 (k + 1)) (F4 (k + 1)) (F5 (k + 1)) (F6 (k + 1)) (F7 (k + 1)) (F8 (k + 1)) (F9 (k + 1)) (F10 (k + 1)) (F11 (k + 1)) (F12 (k + 1)) (F13 (k + 1)) (F14 (k + 1)) (F15 (k + 1)) (F16 (k + 1)) (F17 (k + 1)) (F18 (k + 1)) (F19 (k + 1))) → body again (F1 k) (F2 k) (F3 k) (F4 k) (F5 k) (F6 k) (F7 k) (F8 k) (F9 k) (F10 k) (F11 k) (F12 k) (F13 k) (F14 k) (F15 k) (F16 k) (F17 k) (F18 k) (F19 k)) : Lz19 body a1 a2 a3 a4 a5 a6 a7 a8 a9 a10 a11 a12 a13 a14 a15 a16 a17 a18 a19 := by
  have key : ∀ d k, k ≤ N → N - k = d → lz19 body (d + 1) (F1 k) (F2 k) (F3 k) (F4 k) (F5 k) (F6 k) (F7 k) (F8 k) (F9 k) (F10 k) (F11 k) (F12 k) (F13 k) (F14 k) (F15 k) (F16 k) (F17 k) (F18 k) (F19 k) := by
    intro d
    induction d with
    | zero => intro k hk hd; exact step k hk _ (fun h => absurd h (by omega))
    | succ d ih => intro k hk hd; exact step k hk _ (fun h => ih (k + 1) h (by omega))
  subst e1 e2 e3 e4 e5 e6 e7 e8 e9 e10 e11 e12 e13 e14 e15 e16 e17 e18 e19
  exact ⟨_, key N 0 (Nat.zero_le _) (Nat.sub_zero N)⟩
/-- a loop whose state at its k-th turn is told ahead -/
theorem Lz20_for {T1 T2 T3 T4 T5 T6 T7 T8 T9 T10 T11 T12 T13 T14 T15 T16 T17 T18 T19 T20 : Type} {body : (T1 → T2 → T3 → T4 → T5 → T6 → T7 → T8 → T9 → T10 → T11 → T12 → T13 → T14 → T15 → T16 → T17 → T18 → T19 → T20 → Prop) → T1 → T2 → T3 → T4 → T5 → T6 → T7 → T8 → T9 → T10 → T11 → T12 → T13 → T14 → T15 → T16 → T17 → T18 → T19 → T20 → Prop} {a1 : T1} {a2 : T2} {a3 : T3} {a4 : T4} {a5 : T5} {a6 : T6} {a7 : T7} {a8 : T8} {a9 : T9} {a10 : T10} {a11 : T11} {a12 : T12} {a13 : T13} {a14 : T14} {a15 : T15} {a16 : T16} {a17 : T17} {a18 : T18} {a19 : T19} {a20 : T20} (N : Nat) (F1 : Nat → T1) (F2 : Nat → T2) (F3 : Nat → T3) (F4 : Nat → T4) (F5 : Nat → T5) (F6 : Nat → T6) (F7 : Nat → T7) (F8 : Nat → T8) (F9 : Nat → T9) (F10 : Nat → T10) (F11 : Nat → T11) (F12 : Nat → T12) (F13 : Nat → T13) (F14 : Nat → T14) (F15 : Nat → T15) (F16 : Nat → T16) (F17 : Nat → T17) (F18 : Nat → T18) (F19 : Nat → T19) (F20 : Nat → T20) (e1 : a1 = F1 0) (e2 : a2 = F2 0) (e3 : a3 = F3 0) (e4 : a4 = F4 0) (e5 : a5 = F5 0) (e6 : a6 = F6 0) (e7 : a7 = F7 0) (e8 : a8 = F8 0) (e9 : a9 = F9 0) (e10 : a10 = F10 0) (e11 : a11 = F11 0) (e12 : a12 = F12 0) (e13 : a13 = F13 0) (e14 : a14 = F14 0) (e15 : a15 = F15 0) (e16 : a16 = F16 0) (e17 : a17 = F17 0) (e18 : a18 = F18 0) (e19 : a19 = F19 0) (e20 : a20 = F20 0) (step : ∀ k, k ≤ N → ∀ again : T1 → T2 → T3 → T4 → T5 → T6 → T7 → T8 → T9 → T10 → T11 → T12 → T13 → T14 → T15 → T16 → T17 → T18 → T19 → T20 → Prop, (k < N → again (F1 (k + 1)) (F2 (k + 1)) (F3 (k + 1)) (F4 (k + 1)) (F5 (k + 1)) (F6 (k + 1)) (F7 (k + 1)) (F8 (k + 1)) (F9 (k + 1)) (F10 (k + 1)) (F11 (k + 1)) (F12 (k + 1)) (F13 (k + 1)) (F14 (k + 1)) (F15 (k + 1)) (F16 (k + 1)) (F17 (k + 1)) (F18 (k + 1)) (F19 (k + 1)) (F20 (k + 1))) → body again (F1 k) (F2 k) (F3 k) (F4 k) (F5 k) (F6 k) (F7 k) (F8 k) (F9 k) (F10 k) (F11 k) (F12 k) (F13 k) (F14 k) (F15 k) (F16 k) (F17 k) (F18 k) (F19 k) (F20 k)) : Lz20 body a1 a2 a3 a4 a5 a6 a7 a8 a9 a10 a11 a12 a13 a14 a15 a16 a17 a18 a19 a20 := by
  have key : ∀ d k, k ≤ N → N - k = d → lz20 body (d + 1) (F1 k) (F2 k) (F3 k) (F4 k) (F5 k) (F6 k) (F7 k) (F8 k) (F9 k) (F10 k) (F11 k) (F12 k) (F13 k) (F14 k) (F15 k) (F16 k) (F17 k) (F18 k) (F19 k) (F20 k) := by
    intro d
    induction d with
    | zero => intro k hk hd; exact step k hk _ (fun h => absurd h (by omega))
    | succ d ih => intro k hk hd; exact step k hk _ (fun h => ih (k + 1) h (by omega))
  subst e1 e2 e3 e4 e5 e6 e7 e8 e9 e10 e11 e12 e13 e14 e15 e16 e17 e18 e19 e20
  exact ⟨_, key N 0 (Nat.zero_le _) (Nat.sub_zero N)⟩
theorem vpL (n N : Nat) (h : (Nat.blt n N && Nat.blt N 2147483648) = true) : vp_in (Int32.ofNat n) N := by
  rw [Bool.and_eq_true, Nat.blt_eq, Nat.blt_eq] at h
  exact vp_in_nI h.1 h.2
def setAll : va_W → List Nat → va_W → va_W
  | ws, i :: is, q :: qs => setAll (ws.set i q) is qs
  | ws, _, _ => ws
theorem setAll_len : ∀ (is : List Nat) (qs : va_W) (ws : va_W), (setAll ws is qs).length = ws.length
  | [], _, _ => by simp [setAll]
  | _ :: _, [], _ => by simp [setAll]
  | i :: is, q :: qs, ws => by rw [setAll, setAll_len is qs, List.length_set]
/-- each cell of the world with some cells put anew: one of the new ones, at its place, or an old one at a place that none of the new has -/
theorem setAll_get : ∀ (is : List Nat) (qs ws : va_W) (k : Nat) (q : Nat × va_E), (setAll ws is qs)[k]? = some q → (∃ j : Nat, is[j]? = some k ∧ qs[j]? = some q) ∨ (ws[k]? = some q ∧ ∀ j : Nat, is[j]? = some k → qs.length ≤ j)
  | [], qs, ws, k, q, h => by
    rw [setAll] at h
    · exact Or.inr ⟨h, fun j hj => by simp at hj⟩
    · intro i is q qs h; cases h
  | i :: is, [], ws, k, q, h => by
    rw [setAll] at h
    · exact Or.inr ⟨h, fun j hj => by simp⟩
    · intro i is q qs _ h; cases h
  | i :: is, q0 :: qs, ws, k, q, h => by
    rw [setAll] at h
    rcases setAll_get is qs (ws.set i q0) k q h with ⟨j, h1, h2⟩ | ⟨h1, h2⟩
    · exact Or.inl ⟨j + 1, by rw [List.getElem?_cons_succ]; exact h1, by rw [List.getElem?_cons_succ]; exact h2⟩
    · by_cases hk : i = k
      · subst hk
        rw [List.getElem?_set] at h1
        simp only [if_true] at h1
        split at h1
        · exact Or.inl ⟨0, rfl, h1⟩
        · cases h1
      · rw [List.getElem?_set, if_neg hk] at h1
        refine Or.inr ⟨h1, fun j hj => ?_⟩
        cases j with
        | zero => rw [List.getElem?_cons_zero] at hj; exact absurd (Option.some.inj hj) hk
        | succ j => rw [List.getElem?_cons_succ] at hj; exact Nat.succ_le_succ (h2 j hj)
/-- behind a call that makes no cell: the callee's cells stand where they stood, the others are unchanged -/
theorem jI {A0 : Nat → Prop} {D : va_G} {cl : List vw_C} {ws wc w1 : va_W} {H H1 : Heap} (hP : va_P D cl ws H) (hD : va_D A0 ws) (is : List Nat) (hC : is.map (fun i => ws[i]?) = wc.map some)
    (hk : ∀ q : Nat, q < H.size → ¬ va_A wc H.size q → H1[q]? = H[q]?) (hP1 : va_P D cl w1 H1) (ha : w1.map Prod.fst = wc.map Prod.fst) : va_P D cl (setAll ws is w1) H1 ∧ va_D A0 (setAll ws is w1) := by
  have hlen : w1.length = wc.length := by have := congrArg List.length ha; simpa using this
  have hlen2 : is.length = wc.length := by have := congrArg List.length hC; simpa using this
  have atC : ∀ (j i : Nat), is[j]? = some i → ∃ q, wc[j]? = some q ∧ ws[i]? = some q := by
    intro j i hj
    have h1 : (is.map (fun i => ws[i]?))[j]? = some (ws[i]?) := by rw [List.getElem?_map, hj]; rfl
    rw [hC, List.getElem?_map] at h1
    cases hq : wc[j]? with
    | none => rw [hq] at h1; cases h1
    | some q => rw [hq] at h1; exact ⟨q, rfl, (Option.some.inj h1).symm⟩
  have addr : ∀ (j : Nat) (q q' : Nat × va_E), w1[j]? = some q → wc[j]? = some q' → q.1 = q'.1 := by
    intro j q q' h1 h2
    have e1 : (w1.map Prod.fst)[j]? = some q.1 := by rw [List.getElem?_map, h1]; rfl
    have e2 : (wc.map Prod.fst)[j]? = some q'.1 := by rw [List.getElem?_map, h2]; rfl
    rw [ha, e2] at e1
    exact (Option.some.inj e1).symm
  -- each new cell has the address that stood at its place
  have key : ∀ (k : Nat) (q : Nat × va_E), (setAll ws is w1)[k]? = some q → ∃ q0, ws[k]? = some q0 ∧ q.1 = q0.1 ∧ ((∃ j : Nat, is[j]? = some k ∧ w1[j]? = some q) ∨ (q = q0 ∧ ∀ j : Nat, is[j]? ≠ some k)) := by
    intro k q h
    rcases setAll_get is w1 ws k q h with ⟨j, h1, h2⟩ | ⟨h1, h2⟩
    · obtain ⟨q0, h3, h4⟩ := atC j k h1
      exact ⟨q0, h4, addr j q q0 h2 h3, Or.inl ⟨j, h1, h2⟩⟩
    · refine ⟨q, h1, rfl, Or.inr ⟨rfl, fun j hj => ?_⟩⟩
      have h3 := h2 j hj
      have h4 : j < is.length := (List.getElem?_eq_some_iff.mp hj).1
      omega
  refine ⟨fun k q h => ?_, fun i j x y hi hj hxy => ?_, fun k q h => ?_⟩
  · obtain ⟨q0, h1, h2, h3⟩ := key k q h
    rcases h3 with ⟨j, -, h4⟩ | ⟨h4, h5⟩
    · exact hP1 j q h4
    · subst h4
      refine (hP k q h1).kept (hk q.1 (hP k q h1).lt (fun hA => ?_))
      rcases hA with ⟨j, e, hj⟩ | hA
      · have h6 : j < is.length := by rw [hlen2]; exact (List.getElem?_eq_some_iff.mp hj).1
        obtain ⟨i, hi⟩ : ∃ i, is[j]? = some i := ⟨is[j], List.getElem?_eq_getElem h6⟩
        obtain ⟨q1, h7, h8⟩ := atC j i hi
        rw [hj] at h7
        have h9 := Option.some.inj h7
        have h10 := hD.1 k i q q1 h1 h8 (by rw [← h9])
        rw [← h10] at hi
        exact h5 j hi
      · have := (hP k q h1).lt
        omega
  · obtain ⟨x0, h1, h2, -⟩ := key i x hi
    obtain ⟨y0, h3, h4, -⟩ := key j y hj
    exact hD.1 i j x0 y0 h1 h3 (by rw [← h2, ← h4]; exact hxy)
  · obtain ⟨q0, h1, h2, -⟩ := key k q h
    rw [h2]
    exact hD.2 k q0 h1
theorem dSub {A : Nat → Prop} {ws ws' : va_W} (hD : va_D A ws) (is : List Nat) (hn : va_nd is = true) (hs : is.map (fun i => ws[i]?) = ws'.map some) : va_D (fun _ => True) ws' := (hD.sub is hn hs).weaken (fun _ _ _ _ => trivial)
theorem pSub {D : va_G} {cl : List vw_C} {ws ws' : va_W} {H : Heap} (hP : va_P D cl ws H) (is : List Nat) (hs : is.map (fun i => ws[i]?) = ws'.map some) : va_P D cl ws' H := by
  intro k q hk
  have h1 : (is.map (fun i => ws[i]?))[k]? = some (some q) := by rw [hs, List.getElem?_map, hk]; rfl
  rw [List.getElem?_map] at h1
  cases hi : is[k]? with
  | none => rw [hi] at h1; cases h1
  | some i => rw [hi] at h1; exact hP i q (Option.some.inj h1)
abbrev tyX (cy : Nat → ClassId) : List (ClassId × FieldType) := [(cy 0, .int), (cy 1, .boolean), (cy 2, .object "HeadsetBands$Tree"), (cy 3, .object "HeadsetBands$Ear"), (cy 4, .object "HeadsetBands$Packet"), (cy 5, .object "HeadsetBands$Way")]
def nestM : List (String × Nat × MethodName × String) := [("HeadsetBands$Way", 17, ⟨"HeadsetBands$Book", "<init>", "()V"⟩, "HeadsetBands"), ("HeadsetBands$Queue", 32, ⟨"HeadsetBands$Packet", "<init>", "()V"⟩, "HeadsetBands"), ("HeadsetBands$Packet", 24, ⟨"HeadsetBands$Code", "<init>", "()V"⟩, "HeadsetBands"), ("HeadsetBands$Coder", 11, ⟨"HeadsetBands$Tree", "<init>", "()V"⟩, "HeadsetBands"), ("HeadsetBands$Coder", 24, ⟨"HeadsetBands$Frame", "<init>", "()V"⟩, "HeadsetBands"), ("HeadsetBands$Coder", 31, ⟨"HeadsetBands$Code", "<init>", "()V"⟩, "HeadsetBands"), ("HeadsetBands$Player", 11, ⟨"HeadsetBands$Ear", "<init>", "()V"⟩, "HeadsetBands"), ("HeadsetBands$Ear", 11, ⟨"HeadsetBands$Tree", "<init>", "()V"⟩, "HeadsetBands"), ("HeadsetBands$Player", 20, ⟨"HeadsetBands$Frame", "<init>", "()V"⟩, "HeadsetBands"), ("HeadsetBands", 25, ⟨"HeadsetBands$Frame", "<init>", "()V"⟩, "HeadsetBands"), ("HeadsetBands", 32, ⟨"HeadsetBands$Code", "<init>", "()V"⟩, "HeadsetBands"), ("HeadsetBands", 39, ⟨"HeadsetBands$Tree", "<init>", "()V"⟩, "HeadsetBands"), ("HeadsetBands$Coder", 52, ⟨"HeadsetBands", "sampleOf", "([III)I"⟩, "HeadsetBands"), ("HeadsetBands$Book", 30, ⟨"HeadsetBands", "within", "(III)Z"⟩, "HeadsetBands"), ("HeadsetBands$Book", 38, ⟨"HeadsetBands", "nearest", "(III)I"⟩, "HeadsetBands"), ("HeadsetBands$Ear", 68, ⟨"HeadsetBands", "nearestSample", "(I)I"⟩, "HeadsetBands"), ("HeadsetBands$Player", 149, ⟨"HeadsetBands", "sampleOf", "([III)I"⟩, "HeadsetBands"), ("HeadsetBands$Player", 159, ⟨"HeadsetBands", "nearest", "(III)I"⟩, "HeadsetBands")]
def nestF : List (String × Nat × String × String × String × String) := [("HeadsetBands$Way", 56, "HeadsetBands", "FIRST_TOLD", "[I", "HeadsetBands"), ("HeadsetBands$Way", 65, "HeadsetBands", "FIRST_LOUD", "[I", "HeadsetBands"), ("HeadsetBands$Way", 68, "HeadsetBands", "FIRST_TONES", "[I", "HeadsetBands")]
/-- what the tables say of nest mates, and of rows of objects -/
def GW (U : State) : Prop := (∀ q ∈ nestM, va_Nw (.methodLinkNest q.1 q.2.1 q.2.2.1 q.2.2.2) U) ∧ (∀ q ∈ nestF, va_Nw (.fieldLinkNest q.1 q.2.1 q.2.2.1 q.2.2.2.1 q.2.2.2.2.1 q.2.2.2.2.2) U) ∧ va_AO "HeadsetBands$Tree" U ∧ va_AO "HeadsetBands$Ear" U ∧ va_AO "HeadsetBands$Packet" U ∧ va_AO "HeadsetBands$Way" U
theorem GW_warm {s U : State} (hW : s.WarmedH U.vm) (h : GW s) : GW U := ⟨fun q hq => (h.1 q hq).warmM hW, fun q hq => (h.2.1 q hq).warmF hW, h.2.2.1.moved hW.alike, h.2.2.2.1.moved hW.alike, h.2.2.2.2.1.moved hW.alike, h.2.2.2.2.2.moved hW.alike⟩
theorem GW_same {s U : State} (e : s.vm = U.vm) (h : GW s) : GW U := ⟨fun q hq => va_Nw.same rfl e (h.1 q hq), fun q hq => va_Nw.same rfl e (h.2.1 q hq), h.2.2.1.moved (by rw [e]; exact Vm.Alike.refl _), h.2.2.2.1.moved (by rw [e]; exact Vm.Alike.refl _), h.2.2.2.2.1.moved (by rw [e]; exact Vm.Alike.refl _), h.2.2.2.2.2.moved (by rw [e]; exact Vm.Alike.refl _)⟩
/-- a contract's start -/
def PX (dC : Nat → ClassId) (dI : Nat → Nat → Nat) (cy : Nat → ClassId) (av : List Value) (sz : Nat) (ws : va_W) : Array Value → State → Prop := va_Pc av (fun U => U.heap.size = sz ∧ va_P (dC, dI) vwCl ws U.heap ∧ va_K (dC, dI) vwCl (tyX cy) U ∧ va_D (fun _ => True) ws ∧ GW U)
theorem PX_blind {dC : Nat → ClassId} {dI : Nat → Nat → Nat} {cy : Nat → ClassId} {av : List Value} {sz : Nat} {ws : va_W} : FrameBlind (PX dC dI cy av sz ws) := by
  intro a U g mk q
  obtain ⟨q0, q1, qP, qK, qD, qG⟩ := q
  exact ⟨q0, q1, qP, va_K.moved (u := U) (U := U.calling g mk a) (Vm.Alike.refl U.vm) qK, qD, GW_same (s := U) (U := U.calling g mk a) rfl qG⟩
theorem PX_pre {dC : Nat → ClassId} {dI : Nat → Nat → Nat} {cy : Nat → ClassId} {av : List Value} {ws : va_W} {H : Heap} {s : State} (hP : va_P (dC, dI) vwCl ws H) (hK : va_K (dC, dI) vwCl (tyX cy) s) (hD : va_D (fun _ => True) ws) (hG : GW s) :
    ∀ U : State, U.heap = H → s.WarmedH U.vm → PX dC dI cy av H.size ws av.toArray U := by
  intro U hU hW
  exact ⟨rfl, by rw [hU], by rw [hU]; exact hP, va_K.moved hW.alike hK, hD, GW_warm hW hG⟩
/-- a contract's end: the world that is there then -/
abbrev QX {S : Type} (dC : Nat → ClassId) (dI : Nat → Nat → Nat) (cy : Nat → ClassId) (A : Nat → Prop) (w : S → va_W) : S → State → Prop := fun u t => va_P (dC, dI) vwCl (w u) t.heap ∧ va_K (dC, dI) vwCl (tyX cy) t ∧ va_D A (w u)
abbrev jrem (x y : Int32) : Int32 := x - x / y * y
abbrev lrem (x y : Int64) : Int64 := x - x / y * y
abbrev jmax (x y : Int32) : Int32 := if x < y then y else x
abbrev jmin (x y : Int32) : Int32 := if y < x then y else x
abbrev jabs (x : Int32) : Int32 := if 0 ≤ x then x else 0 - x
abbrev lmax (x y : Int64) : Int64 := if y < x then x else y
abbrev lmin (x y : Int64) : Int64 := if x < y then x else y
abbrev isB (x : Int32) : Prop := narrow .boolean (.int x) = .int x
theorem isB_0 : isB 0 := by decide +kernel
theorem isB_1 : isB 1 := by decide +kernel
theorem sw_ne {x k : Int32} {n : Int} (h : ¬ x = k) (hn : k.toInt = n) : x.toInt ≠ n := fun q => h (Int32.toInt_inj.mp (by rw [q, hn]))
theorem jn0 {R9 : Prop} {B9 : (Prop) → Prop} {X9 : Prop} {Gg : Prop} (hw : ∀ k : Prop, (R9 → k) → B9 k) (h1 : R9 → Gg) (h2 : (R9 → Gg) → B9 R9 → X9) : X9 := h2 h1 (hw R9 (fun  h => h))
theorem jn1 {T1 : Type} {R9 : T1 → Prop} {B9 : (T1 → Prop) → Prop} {X9 : Prop} {Gg : T1 → Prop} (hw : ∀ k : T1 → Prop, (∀ (a1 : T1), R9 a1 → k a1) → B9 k) (h1 : ∀ (a1 : T1), R9 a1 → Gg a1) (h2 : (∀ (a1 : T1), R9 a1 → Gg a1) → B9 R9 → X9) : X9 := h2 h1 (hw R9 (fun _ h => h))
theorem jn2 {T1 T2 : Type} {R9 : T1 → T2 → Prop} {B9 : (T1 → T2 → Prop) → Prop} {X9 : Prop} {Gg : T1 → T2 → Prop} (hw : ∀ k : T1 → T2 → Prop, (∀ (a1 : T1) (a2 : T2), R9 a1 a2 → k a1 a2) → B9 k) (h1 : ∀ (a1 : T1) (a2 : T2), R9 a1 a2 → Gg a1 a2) (h2 : (∀ (a1 : T1) (a2 : T2), R9 a1 a2 → Gg a1 a2) → B9 R9 → X9) : X9 := h2 h1 (hw R9 (fun _ _ h => h))
theorem jn3 {T1 T2 T3 : Type} {R9 : T1 → T2 → T3 → Prop} {B9 : (T1 → T2 → T3 → Prop) → Prop} {X9 : Prop} {Gg : T1 → T2 → T3 → Prop} (hw : ∀ k : T1 → T2 → T3 → Prop, (∀ (a1 : T1) (a2 : T2) (a3 : T3), R9 a1 a2 a3 → k a1 a2 a3) → B9 k) (h1 : ∀ (a1 : T1) (a2 : T2) (a3 : T3), R9 a1 a2 a3 → Gg a1 a2 a3) (h2 : (∀ (a1 : T1) (a2 : T2) (a3 : T3), R9 a1 a2 a3 → Gg a1 a2 a3) → B9 R9 → X9) : X9 := h2 h1 (hw R9 (fun _ _ _ h => h))
theorem jn4 {T1 T2 T3 T4 : Type} {R9 : T1 → T2 → T3 → T4 → Prop} {B9 : (T1 → T2 → T3 → T4 → Prop) → Prop} {X9 : Prop} {Gg : T1 → T2 → T3 → T4 → Prop} (hw : ∀ k : T1 → T2 → T3 → T4 → Prop, (∀ (a1 : T1) (a2 : T2) (a3 : T3) (a4 : T4), R9 a1 a2 a3 a4 → k a1 a2 a3 a4) → B9 k) (h1 : ∀ (a1 : T1) (a2 : T2) (a3 : T3) (a4 : T4), R9 a1 a2 a3 a4 → Gg a1 a2 a3 a4) (h2 : (∀ (a1 : T1) (a2 : T2) (a3 : T3) (a4 : T4), R9 a1 a2 a3 a4 → Gg a1 a2 a3 a4) → B9 R9 → X9) : X9 := h2 h1 (hw R9 (fun _ _ _ _ h => h))
theorem jn5 {T1 T2 T3 T4 T5 : Type} {R9 : T1 → T2 → T3 → T4 → T5 → Prop} {B9 : (T1 → T2 → T3 → T4 → T5 → Prop) → Prop} {X9 : Prop} {Gg : T1 → T2 → T3 → T4 → T5 → Prop} (hw : ∀ k : T1 → T2 → T3 → T4 → T5 → Prop, (∀ (a1 : T1) (a2 : T2) (a3 : T3) (a4 : T4) (a5 : T5), R9 a1 a2 a3 a4 a5 → k a1 a2 a3 a4 a5) → B9 k) (h1 : ∀ (a1 : T1) (a2 : T2) (a3 : T3) (a4 : T4) (a5 : T5), R9 a1 a2 a3 a4 a5 → Gg a1 a2 a3 a4 a5) (h2 : (∀ (a1 : T1) (a2 : T2) (a3 : T3) (a4 : T4) (a5 : T5), R9 a1 a2 a3 a4 a5 → Gg a1 a2 a3 a4 a5) → B9 R9 → X9) : X9 := h2 h1 (hw R9 (fun _ _ _ _ _ h => h))
theorem jn6 {T1 T2 T3 T4 T5 T6 : Type} {R9 : T1 → T2 → T3 → T4 → T5 → T6 → Prop} {B9 : (T1 → T2 → T3 → T4 → T5 → T6 → Prop) → Prop} {X9 : Prop} {Gg : T1 → T2 → T3 → T4 → T5 → T6 → Prop} (hw : ∀ k : T1 → T2 → T3 → T4 → T5 → T6 → Prop, (∀ (a1 : T1) (a2 : T2) (a3 : T3) (a4 : T4) (a5 : T5) (a6 : T6), R9 a1 a2 a3 a4 a5 a6 → k a1 a2 a3 a4 a5 a6) → B9 k) (h1 : ∀ (a1 : T1) (a2 : T2) (a3 : T3) (a4 : T4) (a5 : T5) (a6 : T6), R9 a1 a2 a3 a4 a5 a6 → Gg a1 a2 a3 a4 a5 a6) (h2 : (∀ (a1 : T1) (a2 : T2) (a3 : T3) (a4 : T4) (a5 : T5) (a6 : T6), R9 a1 a2 a3 a4 a5 a6 → Gg a1 a2 a3 a4 a5 a6) → B9 R9 → X9) : X9 := h2 h1 (hw R9 (fun _ _ _ _ _ _ h => h))
theorem jn7 {T1 T2 T3 T4 T5 T6 T7 : Type} {R9 : T1 → T2 → T3 → T4 → T5 → T6 → T7 → Prop} {B9 : (T1 → T2 → T3 → T4 → T5 → T6 → T7 → Prop) → Prop} {X9 : Prop} {Gg : T1 → T2 → T3 → T4 → T5 → T6 → T7 → Prop} (hw : ∀ k : T1 → T2 → T3 → T4 → T5 → T6 → T7 → Prop, (∀ (a1 : T1) (a2 : T2) (a3 : T3) (a4 : T4) (a5 : T5) (a6 : T6) (a7 : T7), R9 a1 a2 a3 a4 a5 a6 a7 → k a1 a2 a3 a4 a5 a6 a7) → B9 k) (h1 : ∀ (a1 : T1) (a2 : T2) (a3 : T3) (a4 : T4) (a5 : T5) (a6 : T6) (a7 : T7), R9 a1 a2 a3 a4 a5 a6 a7 → Gg a1 a2 a3 a4 a5 a6 a7) (h2 : (∀ (a1 : T1) (a2 : T2) (a3 : T3) (a4 : T4) (a5 : T5) (a6 : T6) (a7 : T7), R9 a1 a2 a3 a4 a5 a6 a7 → Gg a1 a2 a3 a4 a5 a6 a7) → B9 R9 → X9) : X9 := h2 h1 (hw R9 (fun _ _ _ _ _ _ _ h => h))
theorem jn8 {T1 T2 T3 T4 T5 T6 T7 T8 : Type} {R9 : T1 → T2 → T3 → T4 → T5 → T6 → T7 → T8 → Prop} {B9 : (T1 → T2 → T3 → T4 → T5 → T6 → T7 → T8 → Prop) → Prop} {X9 : Prop} {Gg : T1 → T2 → T3 → T4 → T5 → T6 → T7 → T8 → Prop} (hw : ∀ k : T1 → T2 → T3 → T4 → T5 → T6 → T7 → T8 → Prop, (∀ (a1 : T1) (a2 : T2) (a3 : T3) (a4 : T4) (a5 : T5) (a6 : T6) (a7 : T7) (a8 : T8), R9 a1 a2 a3 a4 a5 a6 a7 a8 → k a1 a2 a3 a4 a5 a6 a7 a8) → B9 k) (h1 : ∀ (a1 : T1) (a2 : T2) (a3 : T3) (a4 : T4) (a5 : T5) (a6 : T6) (a7 : T7) (a8 : T8), R9 a1 a2 a3 a4 a5 a6 a7 a8 → Gg a1 a2 a3 a4 a5 a6 a7 a8) (h2 : (∀ (a1 : T1) (a2 : T2) (a3 : T3) (a4 : T4) (a5 : T5) (a6 : T6) (a7 : T7) (a8 : T8), R9 a1 a2 a3 a4 a5 a6 a7 a8 → Gg a1 a2 a3 a4 a5 a6 a7 a8) → B9 R9 → X9) : X9 := h2 h1 (hw R9 (fun _ _ _ _ _ _ _ _ h => h))
theorem jn9 {T1 T2 T3 T4 T5 T6 T7 T8 T9 : Type} {R9 : T1 → T2 → T3 → T4 → T5 → T6 → T7 → T8 → T9 → Prop} {B9 : (T1 → T2 → T3 → T4 → T5 → T6 → T7 → T8 → T9 → Prop) → Prop} {X9 : Prop} {Gg : T1 → T2 → T3 → T4 → T5 → T6 → T7 → T8 → T9 → Prop} (hw : ∀ k : T1 → T2 → T3 → T4 → T5 → T6 → T7 → T8 → T9 → Prop, (∀ (a1 : T1) (a2 : T2) (a3 : T3) (a4 : T4) (a5 : T5) (a6 : T6) (a7 : T7) (a8 : T8) (a9 : T9), R9 a1 a2 a3 a4 a5 a6 a7 a8 a9 → k a1 a2 a3 a4 a5 a6 a7 a8 a9) → B9 k) (h1 : ∀ (a1 : T1) (a2 : T2) (a3 : T3) (a4 : T4) (a5 : T5) (a6 : T6) (a7 : T7) (a8 : T8) (a9 : T9), R9 a1 a2 a3 a4 a5 a6 a7 a8 a9 → Gg a1 a2 a3 a4 a5 a6 a7 a8 a9) (h2 : (∀ (a1 : T1) (a2 : T2) (a3 : T3) (a4 : T4) (a5 : T5) (a6 : T6) (a7 : T7) (a8 : T8) (a9 : T9), R9 a1 a2 a3 a4 a5 a6 a7 a8 a9 → Gg a1 a2 a3 a4 a5 a6 a7 a8 a9) → B9 R9 → X9) : X9 := h2 h1 (hw R9 (fun _ _ _ _ _ _ _ _ _ h => h))
theorem jn10 {T1 T2 T3 T4 T5 T6 T7 T8 T9 T10 : Type} {R9 : T1 → T2 → T3 → T4 → T5 → T6 → T7 → T8 → T9 → T10 → Prop} {B9 : (T1 → T2 → T3 → T4 → T5 → T6 → T7 → T8 → T9 → T10 → Prop) → Prop} {X9 : Prop} {Gg : T1 → T2 → T3 → T4 → T5 → T6 → T7 → T8 → T9 → T10 → Prop} (hw : ∀ k : T1 → T2 → T3 → T4 → T5 → T6 → T7 → T8 → T9 → T10 → Prop, (∀ (a1 : T1) (a2 : T2) (a3 : T3) (a4 : T4) (a5 : T5) (a6 : T6) (a7 : T7) (a8 : T8) (a9 : T9) (a10 : T10), R9 a1 a2 a3 a4 a5 a6 a7 a8 a9 a10 → k a1 a2 a3 a4 a5 a6 a7 a8 a9 a10) → B9 k) (h1 : ∀ (a1 : T1) (a2 : T2) (a3 : T3) (a4 : T4) (a5 : T5) (a6 : T6) (a7 : T7) (a8 : T8) (a9 : T9) (a10 : T10), R9 a1 a2 a3 a4 a5 a6 a7 a8 a9 a10 → Gg a1 a2 a3 a4 a5 a6 a7 a8 a9 a10) (h2 : (∀ (a1 : T1) (a2 : T2) (a3 : T3) (a4 : T4) (a5 : T5) (a6 : T6) (a7 : T7) (a8 : T8) (a9 : T9) (a10 : T10), R9 a1 a2 a3 a4 a5 a6 a7 a8 a9 a10 → Gg a1 a2 a3 a4 a5 a6 a7 a8 a9 a10) → B9 R9 → X9) : X9 := h2 h1 (hw R9 (fun _ _ _ _ _ _ _ _ _ _ h => h))
theorem jn11 {T1 T2 T3 T4 T5 T6 T7 T8 T9 T10 T11 : Type} {R9 : T1 → T2 → T3 → T4 → T5 → T6 → T7 → T8 → T9 → T10 → T11 → Prop} {B9 : (T1 → T2 → T3 → T4 → T5 → T6 → T7 → T8 → T9 → T10 → T11 → Prop) → Prop} {X9 : Prop} {Gg : T1 → T2 → T3 → T4 → T5 → T6 → T7 → T8 → T9 → T10 → T11 → Prop} (hw : ∀ k : T1 → T2 → T3 → T4 → T5 → T6 → T7 → T8 → T9 → T10 → T11 → Prop, (∀ (a1 : T1) (a2 : T2) (a3 : T3) (a4 : T4) (a5 : T5) (a6 : T6) (a7 : T7) (a8 : T8) (a9 : T9) (a10 : T10) (a11 : T11), R9 a1 a2 a3 a4 a5 a6 a7 a8 a9 a10 a11 → k a1 a2 a3 a4 a5 a6 a7 a8 a9 a10 a11) → B9 k) (h1 : ∀ (a1 : T1) (a2 : T2) (a3 : T3) (a4 : T4) (a5 : T5) (a6 : T6) (a7 : T7) (a8 : T8) (a9 : T9) (a10 : T10) (a11 : T11), R9 a1 a2 a3 a4 a5 a6 a7 a8 a9 a10 a11 → Gg a1 a2 a3 a4 a5 a6 a7 a8 a9 a10 a11) (h2 : (∀ (a1 : T1) (a2 : T2) (a3 : T3) (a4 : T4) (a5 : T5) (a6 : T6) (a7 : T7) (a8 : T8) (a9 : T9) (a10 : T10) (a11 : T11), R9 a1 a2 a3 a4 a5 a6 a7 a8 a9 a10 a11 → Gg a1 a2 a3 a4 a5 a6 a7 a8 a9 a10 a11) → B9 R9 → X9) : X9 := h2 h1 (hw R9 (fun _ _ _ _ _ _ _ _ _ _ _ h => h))
theorem jn12 {T1 T2 T3 T4 T5 T6 T7 T8 T9 T10 T11 T12 : Type} {R9 : T1 → T2 → T3 → T4 → T5 → T6 → T7 → T8 → T9 → T10 → T11 → T12 → Prop} {B9 : (T1 → T2 → T3 → T4 → T5 → T6 → T7 → T8 → T9 → T10 → T11 → T12 → Prop) → Prop} {X9 : Prop} {Gg : T1 → T2 → T3 → T4 → T5 → T6 → T7 → T8 → T9 → T10 → T11 → T12 → Prop} (hw : ∀ k : T1 → T2 → T3 → T4 → T5 → T6 → T7 → T8 → T9 → T10 → T11 → T12 → Prop, (∀ (a1 : T1) (a2 : T2) (a3 : T3) (a4 : T4) (a5 : T5) (a6 : T6) (a7 : T7) (a8 : T8) (a9 : T9) (a10 : T10) (a11 : T11) (a12 : T12), R9 a1 a2 a3 a4 a5 a6 a7 a8 a9 a10 a11 a12 → k a1 a2 a3 a4 a5 a6 a7 a8 a9 a10 a11 a12) → B9 k) (h1 : ∀ (a1 : T1) (a2 : T2) (a3 : T3) (a4 : T4) (a5 : T5) (a6 : T6) (a7 : T7) (a8 : T8) (a9 : T9) (a10 : T10) (a11 : T11) (a12 : T12), R9 a1 a2 a3 a4 a5 a6 a7 a8 a9 a10 a11 a12 → Gg a1 a2 a3 a4 a5 a6 a7 a8 a9 a10 a11 a12) (h2 : (∀ (a1 : T1) (a2 : T2) (a3 : T3) (a4 : T4) (a5 : T5) (a6 : T6) (a7 : T7) (a8 : T8) (a9 : T9) (a10 : T10) (a11 : T11) (a12 : T12), R9 a1 a2 a3 a4 a5 a6 a7 a8 a9 a10 a11 a12 → Gg a1 a2 a3 a4 a5 a6 a7 a8 a9 a10 a11 a12) → B9 R9 → X9) : X9 := h2 h1 (hw R9 (fun _ _ _ _ _ _ _ _ _ _ _ _ h => h))
theorem jn13 {T1 T2 T3 T4 T5 T6 T7 T8 T9 T10 T11 T12 T13 : Type} {R9 : T1 → T2 → T3 → T4 → T5 → T6 → T7 → T8 → T9 → T10 → T11 → T12 → T13 → Prop} {B9 : (T1 → T2 → T3 → T4 → T5 → T6 → T7 → T8 → T9 → T10 → T11 → T12 → T13 → Prop) → Prop} {X9 : Prop} {Gg : T1 → T2 → T3 → T4 → T5 → T6 → T7 → T8 → T9 → T10 → T11 → T12 → T13 → Prop} (hw : ∀ k : T1 → T2 → T3 → T4 → T5 → T6 → T7 → T8 → T9 → T10 → T11 → T12 → T13 → Prop, (∀ (a1 : T1) (a2 : T2) (a3 : T3) (a4 : T4) (a5 : T5) (a6 : T6) (a7 : T7) (a8 : T8) (a9 : T9) (a10 : T10) (a11 : T11) (a12 : T12) (a13 : T13), R9 a1 a2 a3 a4 a5 a6 a7 a8 a9 a10 a11 a12 a13 → k a1 a2 a3 a4 a5 a6 a7 a8 a9 a10 a11 a12 a13) → B9 k) (h1 : ∀ (a1 : T1) (a2 : T2) (a3 : T3) (a4 : T4) (a5 : T5) (a6 : T6) (a7 : T7) (a8 : T8) (a9 : T9) (a10 : T10) (a11 : T11) (a12 : T12) (a13 : T13), R9 a1 a2 a3 a4 a5 a6 a7 a8 a9 a10 a11 a12 a13 → Gg a1 a2 a3 a4 a5 a6 a7 a8 a9 a10 a11 a12 a13) (h2 : (∀ (a1 : T1) (a2 : T2) (a3 : T3) (a4 : T4) (a5 : T5) (a6 : T6) (a7 : T7) (a8 : T8) (a9 : T9) (a10 : T10) (a11 : T11) (a12 : T12) (a13 : T13), R9 a1 a2 a3 a4 a5 a6 a7 a8 a9 a10 a11 a12 a13 → Gg a1 a2 a3 a4 a5 a6 a7 a8 a9 a10 a11 a12 a13) → B9 R9 → X9) : X9 := h2 h1 (hw R9 (fun _ _ _ _ _ _ _ _ _ _ _ _ _ h => h))
theorem jn14 {T1 T2 T3 T4 T5 T6 T7 T8 T9 T10 T11 T12 T13 T14 : Type} {R9 : T1 → T2 → T3 → T4 → T5 → T6 → T7 → T8 → T9 → T10 → T11 → T12 → T13 → T14 → Prop} {B9 : (T1 → T2 → T3 → T4 → T5 → T6 → T7 → T8 → T9 → T10 → T11 → T12 → T13 → T14 → Prop) → Prop} {X9 : Prop} {Gg : T1 → T2 → T3 → T4 → T5 → T6 → T7 → T8 → T9 → T10 → T11 → T12 → T13 → T14 → Prop} (hw : ∀ k : T1 → T2 → T3 → T4 → T5 → T6 → T7 → T8 → T9 → T10 → T11 → T12 → T13 → T14 → Prop, (∀ (a1 : T1) (a2 : T2) (a3 : T3) (a4 : T4) (a5 : T5) (a6 : T6) (a7 : T7) (a8 : T8) (a9 : T9) (a10 : T10) (a11 : T11) (a12 : T12) (a13 : T13) (a14 : T14), R9 a1 a2 a3 a4 a5 a6 a7 a8 a9 a10 a11 a12 a13 a14 → k a1 a2 a3 a4 a5 a6 a7 a8 a9 a10 a11 a12 a13 a14) → B9 k) (h1 : ∀ (a1 : T1) (a2 : T2) (a3 : T3) (a4 : T4) (a5 : T5) (a6 : T6) (a7 : T7) (a8 : T8) (a9 : T9) (a10 : T10) (a11 : T11) (a12 : T12) (a13 : T13) (a14 : T14), R9 a1 a2 a3 a4 a5 a6 a7 a8 a9 a10 a11 a12 a13 a14 → Gg a1 a2 a3 a4 a5 a6 a7 a8 a9 a10 a11 a12 a13 a14) (h2 : (∀ (a1 : T1) (a2 : T2) (a3 : T3) (a4 : T4) (a5 : T5) (a6 : T6) (a7 : T7) (a8 : T8) (a9 : T9) (a10 : T10) (a11 : T11) (a12 : T12) (a13 : T13) (a14 : T14), R9 a1 a2 a3 a4 a5 a6 a7 a8 a9 a10 a11 a12 a13 a14 → Gg a1 a2 a3 a4 a5 a6 a7 a8 a9 a10 a11 a12 a13 a14) → B9 R9 → X9) : X9 := h2 h1 (hw R9 (fun _ _ _ _ _ _ _ _ _ _ _ _ _ _ h => h))
theorem jn15 {T1 T2 T3 T4 T5 T6 T7 T8 T9 T10 T11 T12 T13 T14 T15 : Type} {R9 : T1 → T2 → T3 → T4 → T5 → T6 → T7 → T8 → T9 → T10 → T11 → T12 → T13 → T14 → T15 → Prop} {B9 : (T1 → T2 → T3 → T4 → T5 → T6 → T7 → T8 → T9 → T10 → T11 → T12 → T13 → T14 → T15 → Prop) → Prop} {X9 : Prop} {Gg : T1 → T2 → T3 → T4 → T5 → T6 → T7 → T8 → T9 → T10 → T11 → T12 → T13 → T14 → T15 → Prop} (hw : ∀ k : T1 → T2 → T3 → T4 → T5 → T6 → T7 → T8 → T9 → T10 → T11 → T12 → T13 → T14 → T15 → Prop, (∀ (a1 : T1) (a2 : T2) (a3 : T3) (a4 : T4) (a5 : T5) (a6 : T6) (a7 : T7) (a8 : T8) (a9 : T9) (a10 : T10) (a11 : T11) (a12 : T12) (a13 : T13) (a14 : T14) (a15 : T15), R9 a1 a2 a3 a4 a5 a6 a7 a8 a9 a10 a11 a12 a13 a14 a15 → k a1 a2 a3 a4 a5 a6 a7 a8 a9 a10 a11 a12 a13 a14 a15) → B9 k) (h1 : ∀ (a1 : T1) (a2 : T2) (a3 : T3) (a4 : T4) (a5 : T5) (a6 : T6) (a7 : T7) (a8 : T8) (a9 : T9) (a10 : T10) (a11 : T11) (a12 : T12) (a13 : T13) (a14 : T14) (a15 : T15), R9 a1 a2 a3 a4 a5 a6 a7 a8 a9 a10 a11 a12 a13 a14 a15 → Gg a1 a2 a3 a4 a5 a6 a7 a8 a9 a10 a11 a12 a13 a14 a15) (h2 : (∀ (a1 : T1) (a2 : T2) (a3 : T3) (a4 : T4) (a5 : T5) (a6 : T6) (a7 : T7) (a8 : T8) (a9 : T9) (a10 : T10) (a11 : T11) (a12 : T12) (a13 : T13) (a14 : T14) (a15 : T15), R9 a1 a2 a3 a4 a5 a6 a7 a8 a9 a10 a11 a12 a13 a14 a15 → Gg a1 a2 a3 a4 a5 a6 a7 a8 a9 a10 a11 a12 a13 a14 a15) → B9 R9 → X9) : X9 := h2 h1 (hw R9 (fun _ _ _ _ _ _ _ _ _ _ _ _ _ _ _ h => h))
theorem jn16 {T1 T2 T3 T4 T5 T6 T7 T8 T9 T10 T11 T12 T13 T14 T15 T16 : Type} {R9 : T1 → T2 → T3 → T4 → T5 → T6 → T7 → T8 → T9 → T10 → T11 → T12 → T13 → T14 → T15 → T16 → Prop} {B9 : (T1 → T2 → T3 → T4 → T5 → T6 → T7 → T8 → T9 → T10 → T11 → T12 → T13 → T14 → T15 → T16 → Prop) → Prop} {X9 : Prop} {Gg : T1 → T2 → T3 → T4 → T5 → T6 → T7 → T8 → T9 → T10 → T11 → T12 → T13 → T14 → T15 → T16 → Prop} (hw : ∀ k : T1 → T2 → T3 → T4 → T5 → T6 → T7 → T8 → T9 → T10 → T11 → T12 → T13 → T14 → T15 → T16 → Prop, (∀ (a1 : T1) (a2 : T2) (a3 : T3) (a4 : T4) (a5 : T5) (a6 : T6) (a7 : T7) (a8 : T8) (a9 : T9) (a10 : T10) (a11 : T11) (a12 : T12) (a13 : T13) (a14 : T14) (a15 : T15) (a16 : T16), R9 a1 a2 a3 a4 a5 a6 a7 a8 a9 a10 a11 a12 a13 a14 a15 a16 → k a1 a2 a3 a4 a5 a6 a7 a8 a9 a10 a11 a12 a13 a14 a15 a16) → B9 k) (h1 : ∀ (a1 : T1) (a2 : T2) (a3 : T3) (a4 : T4) (a5 : T5) (a6 : T6) (a7 : T7) (a8 : T8) (a9 : T9) (a10 : T10) (a11 : T11) (a12 : T12) (a13 : T13) (a14 : T14) (a15 : T15) (a16 : T16), R9 a1 a2 a3 a4 a5 a6 a7 a8 a9 a10 a11 a12 a13 a14 a15 a16 → Gg a1 a2 a3 a4 a5 a6 a7 a8 a9 a10 a11 a12 a13 a14 a15 a16) (h2 : (∀ (a1 : T1) (a2 : T2) (a3 : T3) (a4 : T4) (a5 : T5) (a6 : T6) (a7 : T7) (a8 : T8) (a9 : T9) (a10 : T10) (a11 : T11) (a12 : T12) (a13 : T13) (a14 : T14) (a15 : T15) (a16 : T16), R9 a1 a2 a3 a4 a5 a6 a7 a8 a9 a10 a11 a12 a13 a14 a15 a16 → Gg a1 a2 a3 a4 a5 a6 a7 a8 a9 a10 a11 a12 a13 a14 a15 a16) → B9 R9 → X9) : X9 := h2 h1 (hw R9 (fun _ _ _ _ _ _ _ _ _ _ _ _ _ _ _ _ h => h))
theorem jn17 {T1 T2 T3 T4 T5 T6 T7 T8 T9 T10 T11 T12 T13 T14 T15 T16 T17 : Type} {R9 : T1 → T2 → T3 → T4 → T5 → T6 → T7 → T8 → T9 → T10 → T11 → T12 → T13 → T14 → T15 → T16 → T17 → Prop} {B9 : (T1 → T2 → T3 → T4 → T5 → T6 → T7 → T8 → T9 → T10 → T11 → T12 → T13 → T14 → T15 → T16 → T17 → Prop) → Prop} {X9 : Prop} {Gg : T1 → T2 → T3 → T4 → T5 → T6 → T7 → T8 → T9 → T10 → T11 → T12 → T13 → T14 → T15 → T16 → T17 → Prop} (hw : ∀ k : T1 → T2 → T3 → T4 → T5 → T6 → T7 → T8 → T9 → T10 → T11 → T12 → T13 → T14 → T15 → T16 → T17 → Prop, (∀ (a1 : T1) (a2 : T2) (a3 : T3) (a4 : T4) (a5 : T5) (a6 : T6) (a7 : T7) (a8 : T8) (a9 : T9) (a10 : T10) (a11 : T11) (a12 : T12) (a13 : T13) (a14 : T14) (a15 : T15) (a16 : T16) (a17 : T17), R9 a1 a2 a3 a4 a5 a6 a7 a8 a9 a10 a11 a12 a13 a14 a15 a16 a17 → k a1 a2 a3 a4 a5 a6 a7 a8 a9 a10 a11 a12 a13 a14 a15 a16 a17) → B9 k) (h1 : ∀ (a1 : T1) (a2 : T2) (a3 : T3) (a4 : T4) (a5 : T5) (a6 : T6) (a7 : T7) (a8 : T8) (a9 : T9) (a10 : T10) (a11 : T11) (a12 : T12) (a13 : T13) (a14 : T14) (a15 : T15) (a16 : T16) (a17 : T17), R9 a1 a2 a3 a4 a5 a6 a7 a8 a9 a10 a11 a12 a13 a14 a15 a16 a17 → Gg a1 a2 a3 a4 a5 a6 a7 a8 a9 a10 a11 a12 a13 a14 a15 a16 a17) (h2 : (∀ (a1 : T1) (a2 : T2) (a3 : T3) (a4 : T4) (a5 : T5) (a6 : T6) (a7 : T7) (a8 : T8) (a9 : T9) (a10 : T10) (a11 : T11) (a12 : T12) (a13 : T13) (a14 : T14) (a15 : T15) (a16 : T16) (a17 : T17), R9 a1 a2 a3 a4 a5 a6 a7 a8 a9 a10 a11 a12 a13 a14 a15 a16 a17 → Gg a1 a2 a3 a4 a5 a6 a7 a8 a9 a10 a11 a12 a13 a14 a15 a16 a17) → B9 R9 → X9) : X9 := h2 h1 (hw R9 (fun _ _ _ _ _ _ _ _ _ _ _ _ _ _ _ _ _ h => h))
theorem jn18 {T1 T2 T3 T4 T5 T6 T7 T8 T9 T10 T11 T12 T13 T14 T15 T16 T17 T18 : Type} {R9 : T1 → T2 → T3 → T4 → T5 → T6 → T7 → T8 → T9 → T10 → T11 → T12 → T13 → T14 → T15 → T16 → T17 → T18 → Prop} {B9 : (T1 → T2 → T3 → T4 → T5 → T6 → T7 → T8 → T9 → T10 → T11 → T12 → T13 → T14 → T15 → T16 → T17 → T18 → Prop) → Prop} {X9 : Prop} {Gg : T1 → T2 → T3 → T4 → T5 → T6 → T7 → T8 → T9 → T10 → T11 → T12 → T13 → T14 → T15 → T16 → T17 → T18 → Prop} (hw : ∀ k : T1 → T2 → T3 → T4 → T5 → T6 → T7 → T8 → T9 → T10 → T11 → T12 → T13 → T14 → T15 → T16 → T17 → T18 → Prop, (∀ (a1 : T1) (a2 : T2) (a3 : T3) (a4 : T4) (a5 : T5) (a6 : T6) (a7 : T7) (a8 : T8) (a9 : T9) (a10 : T10) (a11 : T11) (a12 : T12) (a13 : T13) (a14 : T14) (a15 : T15) (a16 : T16) (a17 : T17) (a18 : T18), R9 a1 a2 a3 a4 a5 a6 a7 a8 a9 a10 a11 a12 a13 a14 a15 a16 a17 a18 → k a1 a2 a3 a4 a5 a6 a7 a8 a9 a10 a11 a12 a13 a14 a15 a16 a17 a18) → B9 k) (h1 : ∀ (a1 : T1) (a2 : T2) (a3 : T3) (a4 : T4) (a5 : T5) (a6 : T6) (a7 : T7) (a8 : T8) (a9 : T9) (a10 : T10) (a11 : T11) (a12 : T12) (a13 : T13) (a14 : T14) (a15 : T15) (a16 : T16) (a17 : T17) (a18 : T18), R9 a1 a2 a3 a4 a5 a6 a7 a8 a9 a10 a11 a12 a13 a14 a15 a16 a17 a18 → Gg a1 a2 a3 a4 a5 a6 a7 a8 a9 a10 a11 a12 a13 a14 a15 a16 a17 a18) (h2 : (∀ (a1 : T1) (a2 : T2) (a3 : T3) (a4 : T4) (a5 : T5) (a6 : T6) (a7 : T7) (a8 : T8) (a9 : T9) (a10 : T10) (a11 : T11) (a12 : T12) (a13 : T13) (a14 : T14) (a15 : T15) (a16 : T16) (a17 : T17) (a18 : T18), R9 a1 a2 a3 a4 a5 a6 a7 a8 a9 a10 a11 a12 a13 a14 a15 a16 a17 a18 → Gg a1 a2 a3 a4 a5 a6 a7 a8 a9 a10 a11 a12 a13 a14 a15 a16 a17 a18) → B9 R9 → X9) : X9 := h2 h1 (hw R9 (fun _ _ _ _ _ _ _ _ _ _ _ _ _ _ _ _ _ _ h => h))
theorem jn19 {T1 T2 T3 T4 T5 T6 T7 T8 T9 T10 T11 T12 T13 T14 T15 T16 T17 T18 T19 : Type} {R9 : T1 → T2 → T3 → T4 → T5 → T6 → T7 → T8 → T9 → T10 → T11 → T12 → T13 → T14 → T15 → T16 → T17 → T18 → T19 → Prop} {B9 : (T1 → T2 → T3 → T4 → T5 → T6 → T7 → T8 → T9 → T10 → T11 → T12 → T13 → T14 → T15 → T16 → T17 → T18 → T19 → Prop) → Prop} {X9 : Prop} {Gg : T1 → T2 → T3 → T4 → T5 → T6 → T7 → T8 → T9 → T10 → T11 → T12 → T13 → T14 → T15 → T16 → T17 → T18 → T19 → Prop} (hw : ∀ k : T1 → T2 → T3 → T4 → T5 → T6 → T7 → T8 → T9 → T10 → T11 → T12 → T13 → T14 → T15 → T16 → T17 → T18 → T19 → Prop, (∀ (a1 : T1) (a2 : T2) (a3 : T3) (a4 : T4) (a5 : T5) (a6 : T6) (a7 : T7) (a8 : T8) (a9 : T9) (a10 : T10) (a11 : T11) (a12 : T12) (a13 : T13) (a14 : T14) (a15 : T15) (a16 : T16) (a17 : T17) (a18 : T18) (a19 : T19), R9 a1 a2 a3 a4 a5 a6 a7 a8 a9 a10 a11 a12 a13 a14 a15 a16 a17 a18 a19 → k a1 a2 a3 a4 a5 a6 a7 a8 a9 a10 a11 a12 a13 a14 a15 a16 a17 a18 a19) → B9 k) (h1 : ∀ (a1 : T1) (a2 : T2) (a3 : T3) (a4 : T4) (a5 : T5) (a6 : T6) (a7 : T7) (a8 : T8) (a9 : T9) (a10 : T10) (a11 : T11) (a12 : T12) (a13 : T13) (a14 : T14) (a15 : T15) (a16 : T16) (a17 : T17) (a18 : T18) (a19 : T19), R9 a1 a2 a3 a4 a5 a6 a7 a8 a9 a10 a11 a12 a13 a14 a15 a16 a17 a18 a19 → Gg a1 a2 a3 a4 a5 a6 a7 a8 a9 a10 a11 a12 a13 a14 a15 a16 a17 a18 a19) (h2 : (∀ (a1 : T1) (a2 : T2) (a3 : T3) (a4 : T4) (a5 : T5) (a6 : T6) (a7 : T7) (a8 : T8) (a9 : T9) (a10 : T10) (a11 : T11) (a12 : T12) (a13 : T13) (a14 : T14) (a15 : T15) (a16 : T16) (a17 : T17) (a18 : T18) (a19 : T19), R9 a1 a2 a3 a4 a5 a6 a7 a8 a9 a10 a11 a12 a13 a14 a15 a16 a17 a18 a19 → Gg a1 a2 a3 a4 a5 a6 a7 a8 a9 a10 a11 a12 a13 a14 a15 a16 a17 a18 a19) → B9 R9 → X9) : X9 := h2 h1 (hw R9 (fun _ _ _ _ _ _ _ _ _ _ _ _ _ _ _ _ _ _ _ h => h))
theorem jn20 {T1 T2 T3 T4 T5 T6 T7 T8 T9 T10 T11 T12 T13 T14 T15 T16 T17 T18 T19 T20 : Type} {R9 : T1 → T2 → T3 → T4 → T5 → T6 → T7 → T8 → T9 → T10 → T11 → T12 → T13 → T14 → T15 → T16 → T17 → T18 → T19 → T20 → Prop} {B9 : (T1 → T2 → T3 → T4 → T5 → T6 → T7 → T8 → T9 → T10 → T11 → T12 → T13 → T14 → T15 → T16 → T17 → T18 → T19 → T20 → Prop) → Prop} {X9 : Prop} {Gg : T1 → T2 → T3 → T4 → T5 → T6 → T7 → T8 → T9 → T10 → T11 → T12 → T13 → T14 → T15 → T16 → T17 → T18 → T19 → T20 → Prop} (hw : ∀ k : T1 → T2 → T3 → T4 → T5 → T6 → T7 → T8 → T9 → T10 → T11 → T12 → T13 → T14 → T15 → T16 → T17 → T18 → T19 → T20 → Prop, (∀ (a1 : T1) (a2 : T2) (a3 : T3) (a4 : T4) (a5 : T5) (a6 : T6) (a7 : T7) (a8 : T8) (a9 : T9) (a10 : T10) (a11 : T11) (a12 : T12) (a13 : T13) (a14 : T14) (a15 : T15) (a16 : T16) (a17 : T17) (a18 : T18) (a19 : T19) (a20 : T20), R9 a1 a2 a3 a4 a5 a6 a7 a8 a9 a10 a11 a12 a13 a14 a15 a16 a17 a18 a19 a20 → k a1 a2 a3 a4 a5 a6 a7 a8 a9 a10 a11 a12 a13 a14 a15 a16 a17 a18 a19 a20) → B9 k) (h1 : ∀ (a1 : T1) (a2 : T2) (a3 : T3) (a4 : T4) (a5 : T5) (a6 : T6) (a7 : T7) (a8 : T8) (a9 : T9) (a10 : T10) (a11 : T11) (a12 : T12) (a13 : T13) (a14 : T14) (a15 : T15) (a16 : T16) (a17 : T17) (a18 : T18) (a19 : T19) (a20 : T20), R9 a1 a2 a3 a4 a5 a6 a7 a8 a9 a10 a11 a12 a13 a14 a15 a16 a17 a18 a19 a20 → Gg a1 a2 a3 a4 a5 a6 a7 a8 a9 a10 a11 a12 a13 a14 a15 a16 a17 a18 a19 a20) (h2 : (∀ (a1 : T1) (a2 : T2) (a3 : T3) (a4 : T4) (a5 : T5) (a6 : T6) (a7 : T7) (a8 : T8) (a9 : T9) (a10 : T10) (a11 : T11) (a12 : T12) (a13 : T13) (a14 : T14) (a15 : T15) (a16 : T16) (a17 : T17) (a18 : T18) (a19 : T19) (a20 : T20), R9 a1 a2 a3 a4 a5 a6 a7 a8 a9 a10 a11 a12 a13 a14 a15 a16 a17 a18 a19 a20 → Gg a1 a2 a3 a4 a5 a6 a7 a8 a9 a10 a11 a12 a13 a14 a15 a16 a17 a18 a19 a20) → B9 R9 → X9) : X9 := h2 h1 (hw R9 (fun _ _ _ _ _ _ _ _ _ _ _ _ _ _ _ _ _ _ _ _ h => h))
/-- five static rows of numbers -/
def stName : Nat → String := fun k => match k with
  | 0 => "LEAST_TOLD"
  | 1 => "MOST_TOLD"
  | 2 => "FIRST_TOLD"
  | 3 => "FIRST_LOUD"
  | _ => "FIRST_TONES"
def stLen : Nat → Nat := fun k => match k with
  | 0 => 11
  | 1 => 11
  | 2 => 11
  | 3 => 8
  | _ => 6
def stVal : Nat → Nat → Int32 := fun k => match k with
  | 0 => fun i => ([0, 2, 0, 0, 1, 0, -50, 1, 10, 0, 0] : List Int32).getD i 0
  | 1 => fun i => ([999999, 128, 1, 1, 16, 100, 50, 6, 80, 1, 1000] : List Int32).getD i 0
  | 2 => fun i => ([1, 40, 1, 1, 8, 0, 0, 2, 30, 0, 0] : List Int32).getD i 0
  | 3 => fun i => ([0, 0, 1, 2, 3, 4, 5, 6] : List Int32).getD i 0
  | _ => fun i => ([40, 1000, 0, 50, 1000, 0] : List Int32).getD i 0
def ST (ts : Nat → Nat) (A : Nat → Prop) (U : State) (H : Heap) : Prop := ∀ k, k < 5 → va_Z "HeadsetBands" (stName k) "[I" (.ref (ts k)) A U H ∧ va_T .int (ts k) (stLen k) (fun i => .int (stVal k i)) A U H
theorem ST_same {ts : Nat → Nat} {A : Nat → Prop} {s U : State} {H : Heap} (hvm : s.vm.Alike U.vm) (h : ST ts A s H) : ST ts A U H := fun k hk => ⟨(h k hk).1.moved hvm, (h k hk).2.moved hvm⟩
theorem ST_pass {ts : Nat → Nat} {A : Nat → Prop} {s : State} {H : Heap} {locs : List Loc} {wc : va_W} (h : ST ts A s s.heap) (hS : va_S A s.heap H locs) (hF : ∀ q, va_A wc H.size q → A q) : ST ts (va_A wc H.size) s H := fun k hk => ⟨((h k hk).1.kept hS.2.1).narrow hF, ((h k hk).2.kept hS.2.1).narrow hF⟩
def PXs (dC : Nat → ClassId) (dI : Nat → Nat → Nat) (cy : Nat → ClassId) (ts : Nat → Nat) (av : List Value) (sz : Nat) (ws : va_W) : Array Value → State → Prop := va_Pc av (fun U => U.heap.size = sz ∧ va_P (dC, dI) vwCl ws U.heap ∧ va_K (dC, dI) vwCl (tyX cy) U ∧ va_D (fun _ => True) ws ∧ GW U ∧ ST ts (va_A ws sz) U U.heap)
theorem PXs_blind {dC : Nat → ClassId} {dI : Nat → Nat → Nat} {cy : Nat → ClassId} {ts : Nat → Nat} {av : List Value} {sz : Nat} {ws : va_W} : FrameBlind (PXs dC dI cy ts av sz ws) := by
  intro a U g mk q
  obtain ⟨q0, q1, qP, qK, qD, qG, qS⟩ := q
  exact ⟨q0, q1, qP, va_K.moved (u := U) (U := U.calling g mk a) (Vm.Alike.refl U.vm) qK, qD, GW_same (s := U) (U := U.calling g mk a) rfl qG, ST_same (s := U) (U := U.calling g mk a) (Vm.Alike.refl U.vm) qS⟩
theorem PXs_pre {dC : Nat → ClassId} {dI : Nat → Nat → Nat} {cy : Nat → ClassId} {ts : Nat → Nat} {av : List Value} {ws : va_W} {H : Heap} {s : State} (hP : va_P (dC, dI) vwCl ws H) (hK : va_K (dC, dI) vwCl (tyX cy) s) (hD : va_D (fun _ => True) ws) (hG : GW s) (hT : ST ts (va_A ws H.size) s H) :
    ∀ U : State, U.heap = H → s.WarmedH U.vm → PXs dC dI cy ts av H.size ws av.toArray U := by
  intro U hU hW
  exact ⟨rfl, by rw [hU], by rw [hU]; exact hP, va_K.moved hW.alike hK, hD, GW_warm hW hG, by rw [hU]; exact ST_same hW.alike hT⟩
theorem va_P_perm {D : va_G} {cl : List vw_C} {ws ws' : va_W} {H : Heap} (h : ws.Perm ws') (hP : va_P D cl ws H) : va_P D cl ws' H := by
  intro k q hk
  obtain ⟨i, hi⟩ := List.getElem?_of_mem (h.mem_iff.mpr (List.mem_of_getElem? hk))
  exact hP i q hi
theorem va_D_iff {A : Nat → Prop} {ws : va_W} : va_D A ws ↔ (ws.map Prod.fst).Nodup ∧ ∀ q ∈ ws, A q.1 := by
  constructor
  · intro h
    refine ⟨?_, fun q hq => by obtain ⟨i, hi⟩ := List.getElem?_of_mem hq; exact h.2 i q hi⟩
    rw [List.Nodup, List.pairwise_iff_getElem]
    intro i j hi hj hij e
    rw [List.getElem_map, List.getElem_map] at e
    rw [List.length_map] at hi hj
    have := h.1 i j ws[i] ws[j] (List.getElem?_eq_getElem hi) (List.getElem?_eq_getElem hj) e
    omega
  · intro ⟨h1, h2⟩
    refine ⟨fun i j p q hi hj e => ?_, fun k q hk => h2 q (List.mem_of_getElem? hk)⟩
    rw [List.Nodup, List.pairwise_iff_getElem] at h1
    obtain ⟨hi', ei⟩ := List.getElem?_eq_some_iff.mp hi
    obtain ⟨hj', ej⟩ := List.getElem?_eq_some_iff.mp hj
    rcases Nat.lt_trichotomy i j with hl | hl | hl
    · exact absurd (by rw [List.getElem_map, List.getElem_map, ei, ej]; exact e) (h1 i j (by rw [List.length_map]; exact hi') (by rw [List.length_map]; exact hj') hl)
    · exact hl
    · exact absurd (by rw [List.getElem_map, List.getElem_map, ei, ej]; exact e.symm) (h1 j i (by rw [List.length_map]; exact hj') (by rw [List.length_map]; exact hi') hl)
theorem va_D_perm {A : Nat → Prop} {ws ws' : va_W} (h : ws.Perm ws') (hD : va_D A ws) : va_D A ws' := by
  rw [va_D_iff] at hD ⊢
  exact ⟨(h.map Prod.fst).nodup_iff.mp hD.1, fun q hq => hD.2 q (h.mem_iff.mpr hq)⟩
/-- rows of packets -/
def fam : Nat → (Nat → va_W) → va_W
  | 0, _ => []
  | n + 1, w => fam n w ++ w n
def famX : Nat → Nat → (Nat → va_W) → va_W
  | 0, _, _ => []
  | n + 1, j, w => famX n j w ++ (if n = j then [] else w n)
theorem famX_all (w : Nat → va_W) (j : Nat) : ∀ n, n ≤ j → famX n j w = fam n w
  | 0, _ => rfl
  | n + 1, h => by rw [famX, fam, famX_all w j n (by omega), if_neg (by omega)]
theorem famX_cong {w w' : Nat → va_W} {j : Nat} (h : ∀ i, i ≠ j → w' i = w i) : ∀ n, famX n j w' = famX n j w
  | 0 => rfl
  | n + 1 => by
    rw [famX, famX, famX_cong h n]
    by_cases hn : n = j
    · rw [if_pos hn, if_pos hn]
    · rw [if_neg hn, if_neg hn, h n hn]
theorem fam_perm (w : Nat → va_W) (j : Nat) : ∀ n, j < n → (fam n w).Perm (w j ++ famX n j w)
  | 0, h => absurd h (Nat.not_lt_zero _)
  | n + 1, h => by
    rw [fam, famX]
    by_cases hn : n = j
    · subst hn
      rw [if_pos rfl, famX_all w n n (Nat.le_refl _), List.append_nil]
      exact List.perm_append_comm
    · rw [if_neg hn, ← List.append_assoc]
      exact (fam_perm w j n (by omega)).append_right _
theorem va_P_mem {D : va_G} {cl : List vw_C} {ws : va_W} {H : Heap} : va_P D cl ws H ↔ ∀ q ∈ ws, va_at D cl q H := ⟨fun h q hq => by obtain ⟨i, hi⟩ := List.getElem?_of_mem hq; exact h i q hi, fun h k q hk => h q (List.mem_of_getElem? hk)⟩
theorem va_D_pw {A : Nat → Prop} {ws : va_W} : va_D A ws ↔ ws.Pairwise (fun p q => p.1 ≠ q.1) ∧ ∀ q ∈ ws, A q.1 := by
  rw [va_D_iff, List.Nodup, List.pairwise_map]
theorem va_D_fst {A : Nat → Prop} {ws ws' : va_W} (e : ws'.map Prod.fst = ws.map Prod.fst) (h : va_D A ws) : va_D A ws' := by
  rw [va_D_iff] at h ⊢
  refine ⟨by rw [e]; exact h.1, fun q hq => ?_⟩
  have h1 : q.1 ∈ ws.map Prod.fst := by rw [← e]; exact List.mem_map_of_mem hq
  obtain ⟨q', h2, h3⟩ := List.mem_map.mp h1
  rw [← h3]
  exact h.2 q' h2
theorem famB_perm (w : Nat → va_W) (X : va_W) (l1 l2 : List va_W) {n j : Nat} (h : j < n) : (X ++ (l1 ++ fam n w :: l2).flatten).Perm ((X ++ w j) ++ ((l1 ++ l2) ++ [famX n j w]).flatten) := by
  rw [List.append_assoc]
  refine List.Perm.append_left X ?_
  simp only [List.flatten_append, List.flatten_cons, List.flatten_nil, List.append_nil]
  refine (List.Perm.append_left _ ((fam_perm w j n h).append_right _)).trans ?_
  -- l1 ++ ((w j ++ famX) ++ l2) ~ w j ++ ((l1 ++ l2) ++ famX)
  rw [List.append_assoc, ← List.append_assoc l1.flatten, ← List.append_assoc (w j)]
  refine (List.perm_append_comm.append_right _).trans ?_
  rw [List.append_assoc, List.append_assoc, List.append_assoc]
  refine List.Perm.append_left _ (List.Perm.append_left _ ?_)
  exact List.perm_append_comm
theorem fam_in {D : va_G} {cl : List vw_C} {A : Nat → Prop} {X : va_W} {w : Nat → va_W} {n j : Nat} {H : Heap} (l1 l2 : List va_W) (hP : va_P D cl (X ++ (l1 ++ fam n w :: l2).flatten) H) (hD : va_D A (X ++ (l1 ++ fam n w :: l2).flatten)) (hj : j < n) : va_P D cl ((X ++ w j) ++ ((l1 ++ l2) ++ [famX n j w]).flatten) H ∧ va_D A ((X ++ w j) ++ ((l1 ++ l2) ++ [famX n j w]).flatten) := ⟨va_P_perm (famB_perm w X l1 l2 hj) hP, va_D_perm (famB_perm w X l1 l2 hj) hD⟩
theorem fam_out {D : va_G} {cl : List vw_C} {A : Nat → Prop} {X v : va_W} {w w' : Nat → va_W} {n j : Nat} {H : Heap} (l1 l2 : List va_W) (hP : va_P D cl ((X ++ v) ++ ((l1 ++ l2) ++ [famX n j w]).flatten) H) (hD : va_D A ((X ++ v) ++ ((l1 ++ l2) ++ [famX n j w]).flatten)) (hj : j < n) (h1 : w' j = v) (h2 : ∀ i, i ≠ j → w' i = w i) : va_P D cl (X ++ (l1 ++ fam n w' :: l2).flatten) H ∧ va_D A (X ++ (l1 ++ fam n w' :: l2).flatten) := by
  have e : ((X ++ v) ++ ((l1 ++ l2) ++ [famX n j w]).flatten).Perm (X ++ (l1 ++ fam n w' :: l2).flatten) := by
    rw [← h1, ← famX_cong h2 n]
    exact (famB_perm w' X l1 l2 hj).symm
  exact ⟨va_P_perm e hP, va_D_perm e hD⟩
def gset {α : Type} : List α → List Nat → List α → List α
  | L, i :: is, q :: qs => gset (L.set i q) is qs
  | L, _, _ => L
theorem gset_get {α : Type} : ∀ (is : List Nat) (qs ws : List α) (k : Nat) (q : α), (gset ws is qs)[k]? = some q → (∃ j : Nat, is[j]? = some k ∧ qs[j]? = some q) ∨ (ws[k]? = some q ∧ ∀ j : Nat, is[j]? = some k → qs.length ≤ j)
  | [], qs, ws, k, q, h => by
    rw [gset] at h
    · exact Or.inr ⟨h, fun j hj => by simp at hj⟩
    · intro i is q qs h; cases h
  | i :: is, [], ws, k, q, h => by
    rw [gset] at h
    · exact Or.inr ⟨h, fun j hj => by simp⟩
    · intro i is q qs _ h; cases h
  | i :: is, q0 :: qs, ws, k, q, h => by
    rw [gset] at h
    rcases gset_get is qs (ws.set i q0) k q h with ⟨j, h1, h2⟩ | ⟨h1, h2⟩
    · exact Or.inl ⟨j + 1, by rw [List.getElem?_cons_succ]; exact h1, by rw [List.getElem?_cons_succ]; exact h2⟩
    · by_cases hk : i = k
      · subst hk
        rw [List.getElem?_set] at h1
        simp only [if_true] at h1
        split at h1
        · exact Or.inl ⟨0, rfl, h1⟩
        · cases h1
      · rw [List.getElem?_set, if_neg hk] at h1
        refine Or.inr ⟨h1, fun j hj => ?_⟩
        cases j with
        | zero => rw [List.getElem?_cons_zero] at hj; exact absurd (Option.some.inj hj) hk
        | succ j => rw [List.getElem?_cons_succ] at hj; exact Nat.succ_le_succ (h2 j hj)
theorem gset_map {α β : Type} (f : α → β) : ∀ (is : List Nat) (L C1 : List α), is.map (fun i => (L.map f)[i]?) = (C1.map f).map some → (gset L is C1).map f = L.map f
  | [], L, C1, _ => by
    rw [gset]
    intro i is q qs h; cases h
  | i :: is, L, [], h => by simp at h
  | i :: is, L, d :: D, h => by
    rw [gset]
    simp only [List.map_cons] at h
    injection h with h1 h2
    have e : (L.set i d).map f = L.map f := by
      rw [List.map_set]
      obtain ⟨hi, h3⟩ := List.getElem?_eq_some_iff.mp h1
      rw [← h3, List.set_getElem_self]
    rw [gset_map f is (L.set i d) D (by rw [e]; exact h2), e]
theorem gat {α : Type} {is : List Nat} {L C : List α} (hC : is.map (fun i => L[i]?) = C.map some) {j k : Nat} (h : is[j]? = some k) : ∃ c, C[j]? = some c ∧ L[k]? = some c := by
  have h1 : (is.map (fun i => L[i]?))[j]? = some (L[k]?) := by rw [List.getElem?_map, h]; rfl
  rw [hC, List.getElem?_map] at h1
  cases hq : C[j]? with
  | none => rw [hq] at h1; cases h1
  | some q => rw [hq] at h1; exact ⟨q, rfl, (Option.some.inj h1).symm⟩
theorem gback {α : Type} {is : List Nat} {L C : List α} (hC : is.map (fun i => L[i]?) = C.map some) {c : α} (h : c ∈ C) : ∃ j k : Nat, is[j]? = some k ∧ C[j]? = some c ∧ L[k]? = some c := by
  obtain ⟨j, hj⟩ := List.getElem?_of_mem h
  have h1 : (C.map some)[j]? = some (some c) := by rw [List.getElem?_map, hj]; rfl
  rw [← hC, List.getElem?_map] at h1
  cases hi : is[j]? with
  | none => rw [hi] at h1; cases h1
  | some k => rw [hi] at h1; exact ⟨j, k, hi, hj, Option.some.inj h1⟩
theorem gmap {α β : Type} (f : α → β) {is : List Nat} {L C C1 : List α} (hC : is.map (fun i => L[i]?) = C.map some) (ha : C1.map f = C.map f) : is.map (fun i => (L.map f)[i]?) = (C1.map f).map some := by
  have h := congrArg (List.map (Option.map f)) hC
  rw [ha]
  simp only [List.map_map, List.getElem?_map] at h ⊢
  exact h
/-- behind a call: cells told one by one, and rows of packets as wholes; what the callee doesn't name is unchanged -/
theorem jB {A0 : Nat → Prop} {D : va_G} {cl : List vw_C} {S Sc S1 : va_W} {bs cs cs1 : List va_W} {H H1 : Heap} (hP : va_P D cl (S ++ bs.flatten) H) (hD : va_D A0 (S ++ bs.flatten)) (is ib : List Nat) (hC : is.map (fun i => S[i]?) = Sc.map some) (hB : ib.map (fun i => bs[i]?) = cs.map some)
    (hk : ∀ q : Nat, q < H.size → ¬ va_A (Sc ++ cs.flatten) H.size q → H1[q]? = H[q]?) (hP1 : va_P D cl (S1 ++ cs1.flatten) H1) (ha : S1.map Prod.fst = Sc.map Prod.fst) (hb : cs1.map (List.map Prod.fst) = cs.map (List.map Prod.fst)) :
    va_P D cl (gset S is S1 ++ (gset bs ib cs1).flatten) H1 ∧ va_D A0 (gset S is S1 ++ (gset bs ib cs1).flatten) := by
  obtain ⟨hpw, -⟩ := va_D_pw.mp hD
  rw [List.pairwise_append] at hpw
  obtain ⟨pS, pB, pX⟩ := hpw
  rw [List.pairwise_flatten] at pB
  obtain ⟨-, pB2⟩ := pB
  rw [List.pairwise_iff_getElem] at pS pB2
  have lS : S1.length = Sc.length := by have := congrArg List.length ha; simpa using this
  have lB : cs1.length = cs.length := by have := congrArg List.length hb; simpa using this
  have lSi : is.length = Sc.length := by have := congrArg List.length hC; simpa using this
  have lBi : ib.length = cs.length := by have := congrArg List.length hB; simpa using this
  rw [va_P_mem] at hP hP1
  have old : ∀ q, q ∈ S ++ bs.flatten → (∀ c ∈ Sc, c.1 ≠ q.1) → (∀ b ∈ cs, ∀ c ∈ b, c.1 ≠ q.1) → va_at D cl q H1 := by
    intro q hq h1 h2
    refine (hP q hq).kept (hk q.1 (hP q hq).lt (fun hA => ?_))
    rcases hA with ⟨i, e, hi⟩ | hA
    · rcases List.mem_append.mp (List.mem_of_getElem? hi) with h | h
      · exact h1 _ h rfl
      · obtain ⟨b, hb1, hb2⟩ := List.mem_flatten.mp h
        exact h2 b hb1 _ hb2 rfl
    · have := (hP q hq).lt
      omega
  constructor
  · rw [va_P_mem]
    intro q hq
    rcases List.mem_append.mp hq with h | h
    · obtain ⟨k, hk1⟩ := List.getElem?_of_mem h
      rcases gset_get is S1 S k q hk1 with ⟨j, h1, h2⟩ | ⟨h1, h2⟩
      · exact hP1 q (List.mem_append_left _ (List.mem_of_getElem? h2))
      · have hqS : q ∈ S := List.mem_of_getElem? h1
        refine old q (List.mem_append_left _ hqS) (fun c hc => ?_) (fun b hb1 c hc => ?_)
        · obtain ⟨j, k2, e1, e2, e3⟩ := gback hC hc
          obtain ⟨hk3, e4⟩ := List.getElem?_eq_some_iff.mp h1
          obtain ⟨hk4, e5⟩ := List.getElem?_eq_some_iff.mp e3
          have hne : k2 ≠ k := fun e => by
            rw [e] at e1
            have := h2 j e1
            have := (List.getElem?_eq_some_iff.mp e1).1
            omega
          rcases Nat.lt_or_gt_of_ne hne with hl | hl
          · have := pS k2 k hk4 hk3 hl; rw [e4, e5] at this; exact this
          · have := pS k k2 hk3 hk4 hl; rw [e4, e5] at this; exact fun e => this e.symm
        · obtain ⟨j, k2, e1, e2, e3⟩ := gback hB hb1
          exact fun e => pX q hqS c (List.mem_flatten.mpr ⟨b, List.mem_of_getElem? e3, hc⟩) e.symm
    · obtain ⟨b, hb1, hb2⟩ := List.mem_flatten.mp h
      obtain ⟨k, hk1⟩ := List.getElem?_of_mem hb1
      rcases gset_get ib cs1 bs k b hk1 with ⟨j, h1, h2⟩ | ⟨h1, h2⟩
      · exact hP1 q (List.mem_append_right _ (List.mem_flatten.mpr ⟨b, List.mem_of_getElem? h2, hb2⟩))
      · have hqB : q ∈ bs.flatten := List.mem_flatten.mpr ⟨b, List.mem_of_getElem? h1, hb2⟩
        refine old q (List.mem_append_right _ hqB) (fun c hc => ?_) (fun b2 hb3 c hc => ?_)
        · obtain ⟨j, k2, e1, e2, e3⟩ := gback hC hc
          exact pX c (List.mem_of_getElem? e3) q hqB
        · obtain ⟨j, k2, e1, e2, e3⟩ := gback hB hb3
          obtain ⟨hk3, e4⟩ := List.getElem?_eq_some_iff.mp h1
          obtain ⟨hk4, e5⟩ := List.getElem?_eq_some_iff.mp e3
          have hne : k2 ≠ k := fun e => by
            rw [e] at e1
            have := h2 j e1
            have := (List.getElem?_eq_some_iff.mp e1).1
            omega
          rcases Nat.lt_or_gt_of_ne hne with hl | hl
          · have := pB2 k2 k hk4 hk3 hl; rw [e4, e5] at this; exact this c hc q hb2
          · have := pB2 k k2 hk3 hk4 hl; rw [e4, e5] at this; exact fun e => this q hb2 c hc e.symm
  · refine va_D_fst ?_ hD
    rw [List.map_append, List.map_append, List.map_flatten, List.map_flatten, gset_map Prod.fst is S S1 (gmap _ hC ha), gset_map (List.map Prod.fst) ib bs cs1 (gmap _ hB hb)]
theorem jB0 {A0 : Nat → Prop} {D : va_G} {cl : List vw_C} {S Sc S1 : va_W} {bs : List va_W} {H H1 : Heap} (hP : va_P D cl (S ++ bs.flatten) H) (hD : va_D A0 (S ++ bs.flatten)) (is : List Nat) (hC : is.map (fun i => S[i]?) = Sc.map some)
    (hk : ∀ q : Nat, q < H.size → ¬ va_A Sc H.size q → H1[q]? = H[q]?) (hP1 : va_P D cl S1 H1) (ha : S1.map Prod.fst = Sc.map Prod.fst) : va_P D cl (gset S is S1 ++ bs.flatten) H1 ∧ va_D A0 (gset S is S1 ++ bs.flatten) :=
  jB (cs := []) (cs1 := []) hP hD is [] hC rfl (by rw [List.flatten_nil, List.append_nil]; exact hk) (by rw [List.flatten_nil, List.append_nil]; exact hP1) ha rfl
theorem fold_fst : ∀ S : va_W, S.foldr (fun q a => q.1 :: a) [] = S.map Prod.fst
  | [] => rfl
  | q :: S => by rw [List.foldr_cons, List.map_cons, fold_fst S]
/-- the same, with the cells behind the call told ahead: each is the callee's, or as it was -/
theorem jCB {A0 : Nat → Prop} {D : va_G} {cl : List vw_C} {S Sc S1 : va_W} {bs cs cs1 : List va_W} {H H1 : Heap} (hP : va_P D cl (S ++ bs.flatten) H) (hD : va_D A0 (S ++ bs.flatten)) (is isR ib : List Nat) (hC : is.map (fun i => S[i]?) = Sc.map some) (hB : ib.map (fun i => bs[i]?) = cs.map some)
    (hk : ∀ q : Nat, q < H.size → ¬ va_A (Sc ++ cs.flatten) H.size q → H1[q]? = H[q]?) (hP1 : va_P D cl (S1 ++ cs1.flatten) H1) (S' : va_W) (hN : is.map (fun i => S'[i]?) = S1.map some) (ha0 : S'.map Prod.fst = S.foldr (fun q a => q.1 :: a) []) (hR0 : isR.map (fun i => S'[i]?) = isR.map (fun i => (S[i]?).map id)) (n : Nat) (hn : S.length = n) (hcov : (List.range n).all (fun k => is.contains k || isR.contains k) = true) (hb : cs1.map (List.map Prod.fst) = cs.map (List.map Prod.fst)) :
    va_P D cl (S' ++ (gset bs ib cs1).flatten) H1 ∧ va_D A0 (S' ++ (gset bs ib cs1).flatten) := by
  have ha : S'.map Prod.fst = S.map Prod.fst := ha0.trans (fold_fst S)
  have hR : isR.map (fun i => S'[i]?) = isR.map (fun i => S[i]?) := hR0.trans (by simp)
  have hlen : S'.length = S.length := by have := congrArg List.length ha; simpa using this
  have fst_at : ∀ (k : Nat) (q q0 : Nat × va_E), S'[k]? = some q → S[k]? = some q0 → q.1 = q0.1 := by
    intro k q q0 h1 h2
    have e1 : (S'.map Prod.fst)[k]? = some q.1 := by rw [List.getElem?_map, h1]; rfl
    have e2 : (S.map Prod.fst)[k]? = some q0.1 := by rw [List.getElem?_map, h2]; rfl
    rw [ha, e2] at e1
    exact (Option.some.inj e1).symm
  have hS1 : S1.map Prod.fst = Sc.map Prod.fst := by
    have l1 : is.length = Sc.length := by have := congrArg List.length hC; simpa using this
    have l2 : is.length = S1.length := by have := congrArg List.length hN; simpa using this
    apply List.ext_getElem?
    intro j
    rw [List.getElem?_map, List.getElem?_map]
    by_cases hj : j < is.length
    · obtain ⟨c, h1, h2⟩ := gat hC (List.getElem?_eq_getElem hj)
      obtain ⟨d, h3, h4⟩ := gat hN (List.getElem?_eq_getElem hj)
      rw [h1, h3]
      exact congrArg some (fst_at _ d c h4 h2)
    · rw [List.getElem?_eq_none (by omega), List.getElem?_eq_none (by omega)]
  obtain ⟨g1, -⟩ := jB hP hD is ib hC hB hk hP1 hS1 hb
  obtain ⟨hpw, -⟩ := va_D_pw.mp hD
  rw [List.pairwise_append] at hpw
  obtain ⟨pS, -, pX⟩ := hpw
  rw [List.pairwise_iff_getElem] at pS
  rw [va_P_mem] at hP hP1 g1
  constructor
  · rw [va_P_mem]
    intro q hq
    rcases List.mem_append.mp hq with h | h
    · obtain ⟨k, hk1⟩ := List.getElem?_of_mem h
      have hkl : k < S.length := by rw [← hlen]; exact (List.getElem?_eq_some_iff.mp hk1).1
      by_cases hin : k ∈ is
      · obtain ⟨j, hj⟩ := List.getElem?_of_mem hin
        obtain ⟨c, h1, h2⟩ := gat hN hj
        rw [hk1] at h2
        rw [Option.some.inj h2]
        exact hP1 c (List.mem_append_left _ (List.mem_of_getElem? h1))
      · have hc := List.all_eq_true.mp hcov k (List.mem_range.mpr (hn ▸ hkl))
        rw [Bool.or_eq_true] at hc
        have hr : k ∈ isR := by
          rcases hc with hc | hc
          · exact absurd (List.contains_iff_mem.mp hc) hin
          · exact List.contains_iff_mem.mp hc
        have hsame : S'[k]? = S[k]? := by
          obtain ⟨j, hj⟩ := List.getElem?_of_mem hr
          have e1 : (isR.map (fun i => S'[i]?))[j]? = some (S'[k]?) := by rw [List.getElem?_map, hj]; rfl
          have e2 : (isR.map (fun i => S[i]?))[j]? = some (S[k]?) := by rw [List.getElem?_map, hj]; rfl
          rw [hR, e2] at e1
          exact (Option.some.inj e1).symm
        rw [hsame] at hk1
        have hqS : q ∈ S := List.mem_of_getElem? hk1
        refine (hP q (List.mem_append_left _ hqS)).kept (hk q.1 (hP q (List.mem_append_left _ hqS)).lt (fun hA => ?_))
        rcases hA with ⟨i, e, hi⟩ | hA
        · rcases List.mem_append.mp (List.mem_of_getElem? hi) with h5 | h5
          · obtain ⟨j, k2, e1, e2, e3⟩ := gback hC h5
            obtain ⟨hk3, e4⟩ := List.getElem?_eq_some_iff.mp hk1
            obtain ⟨hk4, e5⟩ := List.getElem?_eq_some_iff.mp e3
            have hne : k2 ≠ k := fun e6 => hin (e6 ▸ List.mem_of_getElem? e1)
            rcases Nat.lt_or_gt_of_ne hne with hl | hl
            · have := pS k2 k hk4 hk3 hl; rw [e4, e5] at this; exact this rfl
            · have := pS k k2 hk3 hk4 hl; rw [e4, e5] at this; exact this rfl
          · obtain ⟨b, hb1, hb2⟩ := List.mem_flatten.mp h5
            obtain ⟨j, k2, e1, e2, e3⟩ := gback hB hb1
            exact pX q hqS _ (List.mem_flatten.mpr ⟨b, List.mem_of_getElem? e3, hb2⟩) rfl
        · have := (hP q (List.mem_append_left _ hqS)).lt
          omega
    · exact g1 q (List.mem_append_right _ h)
  · refine va_D_fst ?_ hD
    rw [List.map_append, List.map_append, List.map_flatten, List.map_flatten, ha, gset_map (List.map Prod.fst) ib bs cs1 (gmap _ hB hb)]
theorem jC {A0 : Nat → Prop} {D : va_G} {cl : List vw_C} {S Sc S1 : va_W} {bs : List va_W} {H H1 : Heap} (hP : va_P D cl (S ++ bs.flatten) H) (hD : va_D A0 (S ++ bs.flatten)) (is isR : List Nat) (hC : is.map (fun i => S[i]?) = Sc.map some)
    (hk : ∀ q : Nat, q < H.size → ¬ va_A Sc H.size q → H1[q]? = H[q]?) (hP1 : va_P D cl S1 H1) (S' : va_W) (hN : is.map (fun i => S'[i]?) = S1.map some) (ha0 : S'.map Prod.fst = S.foldr (fun q a => q.1 :: a) []) (hR0 : isR.map (fun i => S'[i]?) = isR.map (fun i => (S[i]?).map id)) (n : Nat) (hn : S.length = n) (hcov : (List.range n).all (fun k => is.contains k || isR.contains k) = true) : va_P D cl (S' ++ bs.flatten) H1 ∧ va_D A0 (S' ++ bs.flatten) :=
  jCB (cs := []) (cs1 := []) hP hD is isR [] hC rfl (by rw [List.flatten_nil, List.append_nil]; exact hk) (by rw [List.flatten_nil, List.append_nil]; exact hP1) S' hN ha0 hR0 n hn hcov rfl
theorem jC0 {A0 : Nat → Prop} {D : va_G} {cl : List vw_C} {S Sc S1 : va_W} {H H1 : Heap} (hP : va_P D cl S H) (hD : va_D A0 S) (is isR : List Nat) (hC : is.map (fun i => S[i]?) = Sc.map some)
    (hk : ∀ q : Nat, q < H.size → ¬ va_A Sc H.size q → H1[q]? = H[q]?) (hP1 : va_P D cl S1 H1) (S' : va_W) (hN : is.map (fun i => S'[i]?) = S1.map some) (ha0 : S'.map Prod.fst = S.foldr (fun q a => q.1 :: a) []) (hR0 : isR.map (fun i => S'[i]?) = isR.map (fun i => (S[i]?).map id)) (n : Nat) (hn : S.length = n) (hcov : (List.range n).all (fun k => is.contains k || isR.contains k) = true) : va_P D cl S' H1 ∧ va_D A0 S' := by
  have h := jC (bs := []) (S := S) (by rw [List.flatten_nil, List.append_nil]; exact hP) (by rw [List.flatten_nil, List.append_nil]; exact hD) is isR hC hk hP1 S' hN ha0 hR0 n hn hcov
  rw [List.flatten_nil, List.append_nil] at h
  exact h
theorem memB {S Sc : va_W} {bs cs : List va_W} {is ib : List Nat} (hC : is.map (fun i => S[i]?) = Sc.map some) (hB : ib.map (fun i => bs[i]?) = cs.map some) {q : Nat × va_E} (h : q ∈ Sc ++ cs.flatten) : q ∈ S ++ bs.flatten := by
  rcases List.mem_append.mp h with h | h
  · obtain ⟨j, k, -, -, e⟩ := gback hC h
    exact List.mem_append_left _ (List.mem_of_getElem? e)
  · obtain ⟨b, h1, h2⟩ := List.mem_flatten.mp h
    obtain ⟨j, k, -, -, e⟩ := gback hB h1
    exact List.mem_append_right _ (List.mem_flatten.mpr ⟨b, List.mem_of_getElem? e, h2⟩)
theorem pSubB {D : va_G} {cl : List vw_C} {S Sc : va_W} {bs cs : List va_W} {H : Heap} (hP : va_P D cl (S ++ bs.flatten) H) (is ib : List Nat) (hC : is.map (fun i => S[i]?) = Sc.map some) (hB : ib.map (fun i => bs[i]?) = cs.map some) : va_P D cl (Sc ++ cs.flatten) H := va_P_mem.mpr (fun q hq => va_P_mem.mp hP q (memB hC hB hq))
theorem nd_pw {is : List Nat} (h : va_nd is = true) {i j a b : Nat} (hi : is[i]? = some a) (hj : is[j]? = some b) (hne : i ≠ j) : a ≠ b := fun e => hne (va_nd_inj is h i j a hi (e ▸ hj))
theorem dSubB {A : Nat → Prop} {S Sc : va_W} {bs cs : List va_W} (hD : va_D A (S ++ bs.flatten)) (is ib : List Nat) (n1 : va_nd is = true) (n2 : va_nd ib = true) (hC : is.map (fun i => S[i]?) = Sc.map some) (hB : ib.map (fun i => bs[i]?) = cs.map some) : va_D (fun _ => True) (Sc ++ cs.flatten) := by
  obtain ⟨hpw, -⟩ := va_D_pw.mp hD
  rw [List.pairwise_append] at hpw
  obtain ⟨pS, pB, pX⟩ := hpw
  rw [List.pairwise_flatten] at pB
  obtain ⟨pB1, pB2⟩ := pB
  rw [List.pairwise_iff_getElem] at pS pB2
  refine va_D_pw.mpr ⟨?_, fun _ _ => trivial⟩
  have at2 : ∀ {α : Type} {ks : List Nat} {L C : List α}, ks.map (fun i => L[i]?) = C.map some → ∀ (j : Nat) (c : α), C[j]? = some c → ∃ k, ks[j]? = some k ∧ L[k]? = some c := by
    intro α ks L C h j c hc
    have h1 : (C.map some)[j]? = some (some c) := by rw [List.getElem?_map, hc]; rfl
    rw [← h, List.getElem?_map] at h1
    cases hi : ks[j]? with
    | none => rw [hi] at h1; cases h1
    | some k => rw [hi] at h1; exact ⟨k, rfl, Option.some.inj h1⟩
  rw [List.pairwise_append, List.pairwise_flatten]
  refine ⟨?_, ⟨fun b hb => ?_, ?_⟩, fun c hc d hd => ?_⟩
  · rw [List.pairwise_iff_getElem]
    intro i j hi hj hij
    obtain ⟨k1, e1, e2⟩ := at2 hC i _ (List.getElem?_eq_getElem hi)
    obtain ⟨k2, e3, e4⟩ := at2 hC j _ (List.getElem?_eq_getElem hj)
    obtain ⟨g1, e5⟩ := List.getElem?_eq_some_iff.mp e2
    obtain ⟨g2, e6⟩ := List.getElem?_eq_some_iff.mp e4
    rw [← e5, ← e6]
    rcases Nat.lt_or_gt_of_ne (nd_pw n1 e1 e3 (by omega)) with hl | hl
    · exact pS k1 k2 g1 g2 hl
    · exact fun e => pS k2 k1 g2 g1 hl e.symm
  · obtain ⟨j, k, -, -, e⟩ := gback hB hb
    exact pB1 b (List.mem_of_getElem? e)
  · rw [List.pairwise_iff_getElem]
    intro i j hi hj hij
    obtain ⟨k1, e1, e2⟩ := at2 hB i _ (List.getElem?_eq_getElem hi)
    obtain ⟨k2, e3, e4⟩ := at2 hB j _ (List.getElem?_eq_getElem hj)
    obtain ⟨g1, e5⟩ := List.getElem?_eq_some_iff.mp e2
    obtain ⟨g2, e6⟩ := List.getElem?_eq_some_iff.mp e4
    rw [← e5, ← e6]
    rcases Nat.lt_or_gt_of_ne (nd_pw n2 e1 e3 (by omega)) with hl | hl
    · exact pB2 k1 k2 g1 g2 hl
    · exact fun x hx y hy e => pB2 k2 k1 g2 g1 hl y hy x hx e.symm
  · obtain ⟨j, k, -, -, e⟩ := gback hC hc
    obtain ⟨b, h1, h2⟩ := List.mem_flatten.mp hd
    obtain ⟨j2, k2, -, -, e2⟩ := gback hB h1
    exact pX c (List.mem_of_getElem? e) d (List.mem_flatten.mpr ⟨b, List.mem_of_getElem? e2, h2⟩)
theorem freeB {A0 : Nat → Prop} {S Sc : va_W} {bs cs : List va_W} {H0 H : Heap} {locs : List Loc} (hD : va_D A0 (S ++ bs.flatten)) (hS : va_S A0 H0 H locs) (hA : ∀ q, H0.size ≤ q → A0 q) (is ib : List Nat) (hC : is.map (fun i => S[i]?) = Sc.map some) (hB : ib.map (fun i => bs[i]?) = cs.map some) : ∀ q, va_A (Sc ++ cs.flatten) H.size q → A0 q := by
  intro q h
  rcases h with ⟨k, e, h⟩ | h
  · exact (va_D_pw.mp hD).2 (q, e) (memB hC hB (List.mem_of_getElem? h))
  · exact hA q (Nat.le_trans hS.1 h)
theorem pSub0 {D : va_G} {cl : List vw_C} {S Sc : va_W} {bs : List va_W} {H : Heap} (hP : va_P D cl (S ++ bs.flatten) H) (is : List Nat) (hC : is.map (fun i => S[i]?) = Sc.map some) : va_P D cl Sc H := by
  have h := pSubB (cs := []) hP is [] hC rfl
  rw [List.flatten_nil, List.append_nil] at h
  exact h
theorem dSub0 {A : Nat → Prop} {S Sc : va_W} {bs : List va_W} (hD : va_D A (S ++ bs.flatten)) (is : List Nat) (n1 : va_nd is = true) (hC : is.map (fun i => S[i]?) = Sc.map some) : va_D (fun _ => True) Sc := by
  have h := dSubB (cs := []) hD is [] n1 rfl hC rfl
  rw [List.flatten_nil, List.append_nil] at h
  exact h
theorem free0 {A0 : Nat → Prop} {S Sc : va_W} {bs : List va_W} {H0 H : Heap} {locs : List Loc} (hD : va_D A0 (S ++ bs.flatten)) (hS : va_S A0 H0 H locs) (hA : ∀ q, H0.size ≤ q → A0 q) (is : List Nat) (hC : is.map (fun i => S[i]?) = Sc.map some) : ∀ q, va_A Sc H.size q → A0 q := by
  have h := freeB (cs := []) hD hS hA is [] hC rfl
  rw [List.flatten_nil, List.append_nil] at h
  exact h
abbrev pk (a : Nat → Nat) (cy : Nat → ClassId) (num sent over pb : Int32) (wb : Nat → Int32) (wsz wat : Int32) (cb : Nat → Int32) (csz cat : Int32) : va_W := [(a 0, .inr (5, [.int num, .int sent, .int over, .int pb, .ref (a 1), .ref (a 3)])), (a 1, .inr (1, [.ref (a 2), .int wsz, .int wat])), (a 2, .inl (cy 0, 80, .inl wb)), (a 3, .inr (1, [.ref (a 4), .int csz, .int cat])), (a 4, .inl (cy 0, 80, .inl cb))]
abbrev pkF (e : Nat → Nat → Nat) (cy : Nat → ClassId) (num sent over pb : Nat → Int32) (wb : Nat → Nat → Int32) (wsz wat : Nat → Int32) (cb : Nat → Nat → Int32) (csz cat : Nat → Int32) : Nat → va_W := fun i => pk (e i) cy (num i) (sent i) (over i) (pb i) (wb i) (wsz i) (wat i) (cb i) (csz i) (cat i)
def rowF (e : Nat → Nat → Nat) : Nat → Option Nat := fun i => some (e i 0)
def two (a b : Nat) : Nat → Option Nat := fun k => match k with
  | 0 => some a
  | _ => some b
section XR
variable {p : Program} {l : Launch} {e : Env} {R : Room} {s : State} {m : MethodId} {args : Array Value} {below : List Frame} {meth : Method} {c : Code} {H : Heap} {locs : List Loc} {cells slots : Nat} {Q : State → Prop} {D : va_G} {cl : List vw_C} {tys : List (ClassId × FieldType)} {ws : va_W} {A : Nat → Prop} {H0 : Heap} {a pc : Nat} {ls : Array Slot} {rest : List Value} {cc : ByteArray}
theorem xiald (hexec : p.tables.exec = Jvm.exec) (hb : c.code = cc) (hK : va_K D cl tys s) (hP : va_P D cl ws H) (q0 t0 : Nat) {cA : ClassId} {n : Nat} {f : Nat → Int32} (ha : ws[q0]? = some (a, .inl (cA, n, .inl f))) (ht : tys[t0]? = some (cA, .int)) {i : Int32} {k : Nat} (hin : vp_in i n) (hk : i.toNatClampNeg = k) (hdg : decode cc pc = .ok (.iaload, 1))
    (kk : W p l e R s m args below meth c H locs cells slots Q (F0 m (pc + 1) ls (.int (f k) :: rest))) : W p l e R s m args below meth c H locs cells slots Q (F0 m pc ls (.int i :: .ref a :: rest)) := by
  subst hk
  exact va_iald hexec hb hK hP q0 t0 ha ht hin hdg kk
theorem xzald (hexec : p.tables.exec = Jvm.exec) (hb : c.code = cc) (hK : va_K D cl tys s) (hP : va_P D cl ws H) (q0 t0 : Nat) {cA : ClassId} {n : Nat} {f : Nat → Int32} (ha : ws[q0]? = some (a, .inl (cA, n, .inl f))) (ht : tys[t0]? = some (cA, .boolean)) {i : Int32} {k : Nat} (hin : vp_in i n) (hk : i.toNatClampNeg = k) (hdg : decode cc pc = .ok (.baload, 1))
    (kk : W p l e R s m args below meth c H locs cells slots Q (F0 m (pc + 1) ls (.int (f k) :: rest))) : W p l e R s m args below meth c H locs cells slots Q (F0 m pc ls (.int i :: .ref a :: rest)) := by
  subst hk
  exact va_zald hexec hb hK hP q0 t0 ha ht hin hdg kk
theorem xaldF (hexec : p.tables.exec = Jvm.exec) (hb : c.code = cc) (hK : va_K D cl tys s) (hP : va_P D cl ws H) (q0 t0 : Nat) {cA : ClassId} {C : String} {n : Nat} {f : Nat → Nat → Nat} (ha : ws[q0]? = some (a, .inl (cA, n, .inr (.inr (.inr (.inr (rowF f))))))) (ht : tys[t0]? = some (cA, .object C)) {i : Int32} (hin : vp_in i n) (hdg : decode cc pc = .ok (.aaload, 1))
    (kk : W p l e R s m args below meth c H locs cells slots Q (F0 m (pc + 1) ls (.ref (f i.toNatClampNeg 0) :: rest))) : W p l e R s m args below meth c H locs cells slots Q (F0 m pc ls (.int i :: .ref a :: rest)) :=
  va_aldq hexec hb hK hP q0 t0 ha ht hin hdg kk
theorem xiast (hexec : p.tables.exec = Jvm.exec) (hb : c.code = cc) (hK : va_K D cl tys s) (hP : va_P D cl ws H) (hD : va_D A ws) (hS : va_S A H0 H locs) (q0 t0 : Nat) {cA : ClassId} {n : Nat} {f : Nat → Int32} (ha : ws[q0]? = some (a, .inl (cA, n, .inl f))) (ht : tys[t0]? = some (cA, .int)) {i : Int32} {x : Int32} {k : Nat} (hin : vp_in i n) (hk : i.toNatClampNeg = k) (hdg : decode cc pc = .ok (.iastore, 1))
    (kk : ∀ f1 : Nat → Int32, f1 = upd f k x → ∀ (H1 : Heap) (locs1 : List Loc), va_P D cl (ws.set q0 (a, .inl (cA, n, .inl f1))) H1 → va_D A (ws.set q0 (a, .inl (cA, n, .inl f1))) → va_S A H0 H1 locs1 → W p l e R s m args below meth c H1 locs1 cells slots Q (F0 m (pc + 1) ls rest)) : W p l e R s m args below meth c H locs cells slots Q (F0 m pc ls (.int x :: .int i :: .ref a :: rest)) 
  := by
  subst hk
  exact va_iast hexec hb hK hP hD hS q0 t0 ha ht hin hdg (kk _ rfl)
theorem xzast (hexec : p.tables.exec = Jvm.exec) (hb : c.code = cc) (hK : va_K D cl tys s) (hP : va_P D cl ws H) (hD : va_D A ws) (hS : va_S A H0 H locs) (q0 t0 : Nat) {cA : ClassId} {n : Nat} {f : Nat → Int32} (ha : ws[q0]? = some (a, .inl (cA, n, .inl f))) (ht : tys[t0]? = some (cA, .boolean)) {i : Int32} {x : Int32} {k : Nat} (hin : vp_in i n) (hk : i.toNatClampNeg = k) (hdg : decode cc pc = .ok (.bastore, 1))
    (kk : ∀ f1 : Nat → Int32, f1 = upd f k (vp_nar .boolean x) → ∀ (H1 : Heap) (locs1 : List Loc), va_P D cl (ws.set q0 (a, .inl (cA, n, .inl f1))) H1 → va_D A (ws.set q0 (a, .inl (cA, n, .inl f1))) → va_S A H0 H1 locs1 → W p l e R s m args below meth c H1 locs1 cells slots Q (F0 m (pc + 1) ls rest)) : W p l e R s m args below meth c H locs cells slots Q (F0 m pc ls (.int x :: .int i :: .ref a :: rest)) 
  := by
  subst hk
  exact va_zast hexec hb hK hP hD hS q0 t0 ha ht hin hdg (kk _ rfl)
theorem xcopyi (hexec : p.tables.exec = Jvm.exec) (hb : c.code = cc) (hml : c.maxLocals = ls.size) {own : String} {index : Nat} (hown : s.vm.findClass own = some m.cls) (hlink : (Cond.methodLink own index arraycopyName).before args s = true) (hnat : (Cond.native arraycopyName).before args s = true) (hstat : (Cond.static arraycopyName).before args s = true) (hini : (Cond.initialized "java/lang/System").before args s = true)
    (hK : va_K D cl tys s) (hP : va_P D cl ws H) (hD : va_D A ws) (hS : va_S A H0 H locs) (q0 q1 t0 t1 : Nat) {a0 : Nat} {c0 c1 : ClassId} {n0 n1 : Nat} {f g : Nat → Int32} {ty : FieldType} (ha0 : ws[q0]? = some (a0, .inl (c0, n0, .inl f))) (ha1 : ws[q1]? = some (a, .inl (c1, n1, .inl g))) (ht0 : tys[t0]? = some (c0, ty)) (ht1 : tys[t1]? = some (c1, ty)) (hprim : refKind ty = false) {sp dp n : Int32} (h1 : ¬ sp < 0) (h2 : ¬ dp < 0) (h3 : ¬ n < 0) {k1 k2 k3 : Nat} (h4 : k1 + k3 ≤ n0) (h5 : k2 + k3 ≤ n1) (hfit : ∀ i, i < n.toNatClampNeg → fits ty (.int (f (sp.toNatClampNeg + i))) = true) (hframes : 1 ≤ R.frames) (hlocals : (rest.map fun v => v.category).sum + (nativeFrameWords "java/lang/System" "arraycopy" 5 + 11) ≤ R.locals) (hk1 : sp.toNatClampNeg = k1) (hk2 : dp.toNatClampNeg = k2) (hk3 : n.toNatClampNeg = k3) (hdg : decode cc pc = .ok (.invokestatic index, 3))
    (kk : ∀ f1 : Nat → Int32, f1 = va_cpy f g k1 k2 k3 → ∀ (H1 : Heap) (locs1 : List Loc), va_P D cl (ws.set q1 (a, .inl (c1, n1, .inl f1))) H1 → va_D A (ws.set q1 (a, .inl (c1, n1, .inl f1))) → va_S A H0 H1 locs1 → W p l e R s m args below meth c H1 locs1 cells slots Q (F0 m (pc + 3) ls rest)) : W p l e R s m args below meth c H locs cells slots Q (F0 m pc ls (.int n :: .int dp :: .ref a :: .int sp :: .ref a0 :: rest))  := by
  subst hk1
  subst hk2
  subst hk3
  exact va_copyi hexec hb hml hown hlink hnat hstat hini hK hP hD hS q0 q1 t0 t1 ha0 ha1 ht0 ht1 hprim h1 h2 h3 h4 h5 hfit hframes hlocals hdg (kk _ rfl)
theorem xald0 (hexec : p.tables.exec = Jvm.exec) (hb : c.code = cc) (hK : va_K D cl tys s) (hP : va_P D cl ws H) (q0 t0 : Nat) {cA : ClassId} {C : String} {x y : Nat} (ha : ws[q0]? = some (a, .inl (cA, 2, .inr (.inr (.inr (.inr (two x y))))))) (ht : tys[t0]? = some (cA, .object C)) (hdg : decode cc pc = .ok (.aaload, 1))
    (kk : W p l e R s m args below meth c H locs cells slots Q (F0 m (pc + 1) ls (.ref x :: rest))) : W p l e R s m args below meth c H locs cells slots Q (F0 m pc ls (.int 0 :: .ref a :: rest)) :=
  va_aldq hexec hb hK hP q0 t0 ha ht (i := 0) (vpL 0 2 rfl) hdg kk
theorem xald1 (hexec : p.tables.exec = Jvm.exec) (hb : c.code = cc) (hK : va_K D cl tys s) (hP : va_P D cl ws H) (q0 t0 : Nat) {cA : ClassId} {C : String} {x y : Nat} (ha : ws[q0]? = some (a, .inl (cA, 2, .inr (.inr (.inr (.inr (two x y))))))) (ht : tys[t0]? = some (cA, .object C)) (hdg : decode cc pc = .ok (.aaload, 1))
    (kk : W p l e R s m args below meth c H locs cells slots Q (F0 m (pc + 1) ls (.ref y :: rest))) : W p l e R s m args below meth c H locs cells slots Q (F0 m pc ls (.int 1 :: .ref a :: rest)) :=
  va_aldq hexec hb hK hP q0 t0 ha ht (i := 1) (vpL 1 2 rfl) hdg kk
end XR
