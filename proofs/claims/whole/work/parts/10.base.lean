def lz1 {T1 : Type} (body : (T1 → Prop) → T1 → Prop) : Nat → T1 → Prop
  | 0 => fun _ => False
  | n + 1 => body (lz1 body n)
def Lz1 {T1 : Type} (body : (T1 → Prop) → T1 → Prop) (a1 : T1) : Prop := ∃ n, lz1 body n a1
theorem Lz1_go {T1 : Type} {body : (T1 → Prop) → T1 → Prop} {a1 : T1} {Gg : T1 → Prop} (h : Lz1 body a1) (step : ∀ (again : T1 → Prop), (∀ (a1 : T1), again a1 → Gg a1) → ∀ (a1 : T1), body again a1 → Gg a1) : Gg a1 := by
  obtain ⟨n, h⟩ := h
  induction n generalizing a1 with
  | zero => exact h.elim
  | succ n ih => exact step (lz1 body n) (fun a1 h => ih h) a1 h
theorem Lz1_by {T1 : Type} {body : (T1 → Prop) → T1 → Prop} (I : T1 → Prop) (μ : T1 → Nat) (a1 : T1) (h0 : I a1) (step : ∀ (a1 : T1), I a1 → ∀ (again : T1 → Prop), (∀ (b1 : T1), I b1 → μ b1 < μ a1 → again b1) → body again a1) : Lz1 body a1 := by
  have key : ∀ (n : Nat) (a1 : T1), I a1 → μ a1 < n → lz1 body n a1 := by
    intro n
    induction n with
    | zero => intro a1 _ h; exact absurd h (Nat.not_lt_zero _)
    | succ n ih => intro a1 hI hm; exact step a1 hI (lz1 body n) (fun b1 hI2 hm2 => ih b1 hI2 (Nat.lt_of_lt_of_le hm2 (Nat.le_of_lt_succ hm)))
  exact ⟨_, key (μ a1 + 1) a1 h0 (Nat.lt_succ_self _)⟩
def lz2 {T1 T2 : Type} (body : (T1 → T2 → Prop) → T1 → T2 → Prop) : Nat → T1 → T2 → Prop
  | 0 => fun _ _ => False
  | n + 1 => body (lz2 body n)
def Lz2 {T1 T2 : Type} (body : (T1 → T2 → Prop) → T1 → T2 → Prop) (a1 : T1) (a2 : T2) : Prop := ∃ n, lz2 body n a1 a2
theorem Lz2_go {T1 T2 : Type} {body : (T1 → T2 → Prop) → T1 → T2 → Prop} {a1 : T1} {a2 : T2} {Gg : T1 → T2 → Prop} (h : Lz2 body a1 a2) (step : ∀ (again : T1 → T2 → Prop), (∀ (a1 : T1) (a2 : T2), again a1 a2 → Gg a1 a2) → ∀ (a1 : T1) (a2 : T2), body again a1 a2 → Gg a1 a2) : Gg a1 a2 := by
  obtain ⟨n, h⟩ := h
  induction n generalizing a1 a2 with
  | zero => exact h.elim
  | succ n ih => exact step (lz2 body n) (fun a1 a2 h => ih h) a1 a2 h
theorem Lz2_by {T1 T2 : Type} {body : (T1 → T2 → Prop) → T1 → T2 → Prop} (I : T1 → T2 → Prop) (μ : T1 → T2 → Nat) (a1 : T1) (a2 : T2) (h0 : I a1 a2) (step : ∀ (a1 : T1) (a2 : T2), I a1 a2 → ∀ (again : T1 → T2 → Prop), (∀ (b1 : T1) (b2 : T2), I b1 b2 → μ b1 b2 < μ a1 a2 → again b1 b2) → body again a1 a2) : Lz2 body a1 a2 := by
  have key : ∀ (n : Nat) (a1 : T1) (a2 : T2), I a1 a2 → μ a1 a2 < n → lz2 body n a1 a2 := by
    intro n
    induction n with
    | zero => intro a1 a2 _ h; exact absurd h (Nat.not_lt_zero _)
    | succ n ih => intro a1 a2 hI hm; exact step a1 a2 hI (lz2 body n) (fun b1 b2 hI2 hm2 => ih b1 b2 hI2 (Nat.lt_of_lt_of_le hm2 (Nat.le_of_lt_succ hm)))
  exact ⟨_, key (μ a1 a2 + 1) a1 a2 h0 (Nat.lt_succ_self _)⟩
def lz3 {T1 T2 T3 : Type} (body : (T1 → T2 → T3 → Prop) → T1 → T2 → T3 → Prop) : Nat → T1 → T2 → T3 → Prop
  | 0 => fun _ _ _ => False
  | n + 1 => body (lz3 body n)
def Lz3 {T1 T2 T3 : Type} (body : (T1 → T2 → T3 → Prop) → T1 → T2 → T3 → Prop) (a1 : T1) (a2 : T2) (a3 : T3) : Prop := ∃ n, lz3 body n a1 a2 a3
theorem Lz3_go {T1 T2 T3 : Type} {body : (T1 → T2 → T3 → Prop) → T1 → T2 → T3 → Prop} {a1 : T1} {a2 : T2} {a3 : T3} {Gg : T1 → T2 → T3 → Prop} (h : Lz3 body a1 a2 a3) (step : ∀ (again : T1 → T2 → T3 → Prop), (∀ (a1 : T1) (a2 : T2) (a3 : T3), again a1 a2 a3 → Gg a1 a2 a3) → ∀ (a1 : T1) (a2 : T2) (a3 : T3), body again a1 a2 a3 → Gg a1 a2 a3) : Gg a1 a2 a3 := by
  obtain ⟨n, h⟩ := h
  induction n generalizing a1 a2 a3 with
  | zero => exact h.elim
  | succ n ih => exact step (lz3 body n) (fun a1 a2 a3 h => ih h) a1 a2 a3 h
theorem Lz3_by {T1 T2 T3 : Type} {body : (T1 → T2 → T3 → Prop) → T1 → T2 → T3 → Prop} (I : T1 → T2 → T3 → Prop) (μ : T1 → T2 → T3 → Nat) (a1 : T1) (a2 : T2) (a3 : T3) (h0 : I a1 a2 a3) (step : ∀ (a1 : T1) (a2 : T2) (a3 : T3), I a1 a2 a3 → ∀ (again : T1 → T2 → T3 → Prop), (∀ (b1 : T1) (b2 : T2) (b3 : T3), I b1 b2 b3 → μ b1 b2 b3 < μ a1 a2 a3 → again b1 b2 b3) → body again a1 a2 a3) : Lz3 body a1 a2 a3 := by
  have key : ∀ (n : Nat) (a1 : T1) (a2 : T2) (a3 : T3), I a1 a2 a3 → μ a1 a2 a3 < n → lz3 body n a1 a2 a3 := by
    intro n
    induction n with
    | zero => intro a1 a2 a3 _ h; exact absurd h (Nat.not_lt_zero _)
    | succ n ih => intro a1 a2 a3 hI hm; exact step a1 a2 a3 hI (lz3 body n) (fun b1 b2 b3 hI2 hm2 => ih b1 b2 b3 hI2 (Nat.lt_of_lt_of_le hm2 (Nat.le_of_lt_succ hm)))
  exact ⟨_, key (μ a1 a2 a3 + 1) a1 a2 a3 h0 (Nat.lt_succ_self _)⟩
def lz4 {T1 T2 T3 T4 : Type} (body : (T1 → T2 → T3 → T4 → Prop) → T1 → T2 → T3 → T4 → Prop) : Nat → T1 → T2 → T3 → T4 → Prop
  | 0 => fun _ _ _ _ => False
  | n + 1 => body (lz4 body n)
def Lz4 {T1 T2 T3 T4 : Type} (body : (T1 → T2 → T3 → T4 → Prop) → T1 → T2 → T3 → T4 → Prop) (a1 : T1) (a2 : T2) (a3 : T3) (a4 : T4) : Prop := ∃ n, lz4 body n a1 a2 a3 a4
theorem Lz4_go {T1 T2 T3 T4 : Type} {body : (T1 → T2 → T3 → T4 → Prop) → T1 → T2 → T3 → T4 → Prop} {a1 : T1} {a2 : T2} {a3 : T3} {a4 : T4} {Gg : T1 → T2 → T3 → T4 → Prop} (h : Lz4 body a1 a2 a3 a4) (step : ∀ (again : T1 → T2 → T3 → T4 → Prop), (∀ (a1 : T1) (a2 : T2) (a3 : T3) (a4 : T4), again a1 a2 a3 a4 → Gg a1 a2 a3 a4) → ∀ (a1 : T1) (a2 : T2) (a3 : T3) (a4 : T4), body again a1 a2 a3 a4 → Gg a1 a2 a3 a4) : Gg a1 a2 a3 a4 := by
  obtain ⟨n, h⟩ := h
  induction n generalizing a1 a2 a3 a4 with
  | zero => exact h.elim
  | succ n ih => exact step (lz4 body n) (fun a1 a2 a3 a4 h => ih h) a1 a2 a3 a4 h
theorem Lz4_by {T1 T2 T3 T4 : Type} {body : (T1 → T2 → T3 → T4 → Prop) → T1 → T2 → T3 → T4 → Prop} (I : T1 → T2 → T3 → T4 → Prop) (μ : T1 → T2 → T3 → T4 → Nat) (a1 : T1) (a2 : T2) (a3 : T3) (a4 : T4) (h0 : I a1 a2 a3 a4) (step : ∀ (a1 : T1) (a2 : T2) (a3 : T3) (a4 : T4), I a1 a2 a3 a4 → ∀ (again : T1 → T2 → T3 → T4 → Prop), (∀ (b1 : T1) (b2 : T2) (b3 : T3) (b4 : T4), I b1 b2 b3 b4 → μ b1 b2 b3 b4 < μ a1 a2 a3 a4 → again b1 b2 b3 b4) → body again a1 a2 a3 a4) : Lz4 body a1 a2 a3 a4 := by
  have key : ∀ (n : Nat) (a1 : T1) (a2 : T2) (a3 : T3) (a4 : T4), I a1 a2 a3 a4 → μ a1 a2 a3 a4 < n → lz4 body n a1 a2 a3 a4 := by
    intro n
    induction n with
    | zero => intro a1 a2 a3 a4 _ h; exact absurd h (Nat.not_lt_zero _)
    | succ n ih => intro a1 a2 a3 a4 hI hm; exact step a1 a2 a3 a4 hI (lz4 body n) (fun b1 b2 b3 b4 hI2 hm2 => ih b1 b2 b3 b4 hI2 (Nat.lt_of_lt_of_le hm2 (Nat.le_of_lt_succ hm)))
  exact ⟨_, key (μ a1 a2 a3 a4 + 1) a1 a2 a3 a4 h0 (Nat.lt_succ_self _)⟩
def lz5 {T1 T2 T3 T4 T5 : Type} (body : (T1 → T2 → T3 → T4 → T5 → Prop) → T1 → T2 → T3 → T4 → T5 → Prop) : Nat → T1 → T2 → T3 → T4 → T5 → Prop
  | 0 => fun _ _ _ _ _ => False
  | n + 1 => body (lz5 body n)
def Lz5 {T1 T2 T3 T4 T5 : Type} (body : (T1 → T2 → T3 → T4 → T5 → Prop) → T1 → T2 → T3 → T4 → T5 → Prop) (a1 : T1) (a2 : T2) (a3 : T3) (a4 : T4) (a5 : T5) : Prop := ∃ n, lz5 body n a1 a2 a3 a4 a5
theorem Lz5_go {T1 T2 T3 T4 T5 : Type} {body : (T1 → T2 → T3 → T4 → T5 → Prop) → T1 → T2 → T3 → T4 → T5 → Prop} {a1 : T1} {a2 : T2} {a3 : T3} {a4 : T4} {a5 : T5} {Gg : T1 → T2 → T3 → T4 → T5 → Prop} (h : Lz5 body a1 a2 a3 a4 a5) (step : ∀ (again : T1 → T2 → T3 → T4 → T5 → Prop), (∀ (a1 : T1) (a2 : T2) (a3 : T3) (a4 : T4) (a5 : T5), again a1 a2 a3 a4 a5 → Gg a1 a2 a3 a4 a5) → ∀ (a1 : T1) (a2 : T2) (a3 : T3) (a4 : T4) (a5 : T5), body again a1 a2 a3 a4 a5 → Gg a1 a2 a3 a4 a5) : Gg a1 a2 a3 a4 a5 := by
  obtain ⟨n, h⟩ := h
  induction n generalizing a1 a2 a3 a4 a5 with
  | zero => exact h.elim
  | succ n ih => exact step (lz5 body n) (fun a1 a2 a3 a4 a5 h => ih h) a1 a2 a3 a4 a5 h
theorem Lz5_by {T1 T2 T3 T4 T5 : Type} {body : (T1 → T2 → T3 → T4 → T5 → Prop) → T1 → T2 → T3 → T4 → T5 → Prop} (I : T1 → T2 → T3 → T4 → T5 → Prop) (μ : T1 → T2 → T3 → T4 → T5 → Nat) (a1 : T1) (a2 : T2) (a3 : T3) (a4 : T4) (a5 : T5) (h0 : I a1 a2 a3 a4 a5) (step : ∀ (a1 : T1) (a2 : T2) (a3 : T3) (a4 : T4) (a5 : T5), I a1 a2 a3 a4 a5 → ∀ (again : T1 → T2 → T3 → T4 → T5 → Prop), (∀ (b1 : T1) (b2 : T2) (b3 : T3) (b4 : T4) (b5 : T5), I b1 b2 b3 b4 b5 → μ b1 b2 b3 b4 b5 < μ a1 a2 a3 a4 a5 → again b1 b2 b3 b4 b5) → body again a1 a2 a3 a4 a5) : Lz5 body a1 a2 a3 a4 a5 := by
  have key : ∀ (n : Nat) (a1 : T1) (a2 : T2) (a3 : T3) (a4 : T4) (a5 : T5), I a1 a2 a3 a4 a5 → μ a1 a2 a3 a4 a5 < n → lz5 body n a1 a2 a3 a4 a5 := by
    intro n
    induction n with
    | zero => intro a1 a2 a3 a4 a5 _ h; exact absurd h (Nat.not_lt_zero _)
    | succ n ih => intro a1 a2 a3 a4 a5 hI hm; exact step a1 a2 a3 a4 a5 hI (lz5 body n) (fun b1 b2 b3 b4 b5 hI2 hm2 => ih b1 b2 b3 b4 b5 hI2 (Nat.lt_of_lt_of_le hm2 (Nat.le_of_lt_succ hm)))
  exact ⟨_, key (μ a1 a2 a3 a4 a5 + 1) a1 a2 a3 a4 a5 h0 (Nat.lt_succ_self _)⟩
def lz6 {T1 T2 T3 T4 T5 T6 : Type} (body : (T1 → T2 → T3 → T4 → T5 → T6 → Prop) → T1 → T2 → T3 → T4 → T5 → T6 → Prop) : Nat → T1 → T2 → T3 → T4 → T5 → T6 → Prop
  | 0 => fun _ _ _ _ _ _ => False
  | n + 1 => body (lz6 body n)
def Lz6 {T1 T2 T3 T4 T5 T6 : Type} (body : (T1 → T2 → T3 → T4 → T5 → T6 → Prop) → T1 → T2 → T3 → T4 → T5 → T6 → Prop) (a1 : T1) (a2 : T2) (a3 : T3) (a4 : T4) (a5 : T5) (a6 : T6) : Prop := ∃ n, lz6 body n a1 a2 a3 a4 a5 a6
theorem Lz6_go {T1 T2 T3 T4 T5 T6 : Type} {body : (T1 → T2 → T3 → T4 → T5 → T6 → Prop) → T1 → T2 → T3 → T4 → T5 → T6 → Prop} {a1 : T1} {a2 : T2} {a3 : T3} {a4 : T4} {a5 : T5} {a6 : T6} {Gg : T1 → T2 → T3 → T4 → T5 → T6 → Prop} (h : Lz6 body a1 a2 a3 a4 a5 a6) (step : ∀ (again : T1 → T2 → T3 → T4 → T5 → T6 → Prop), (∀ (a1 : T1) (a2 : T2) (a3 : T3) (a4 : T4) (a5 : T5) (a6 : T6), again a1 a2 a3 a4 a5 a6 → Gg a1 a2 a3 a4 a5 a6) → ∀ (a1 : T1) (a2 : T2) (a3 : T3) (a4 : T4) (a5 : T5) (a6 : T6), body again a1 a2 a3 a4 a5 a6 → Gg a1 a2 a3 a4 a5 a6) : Gg a1 a2 a3 a4 a5 a6 := by
  obtain ⟨n, h⟩ := h
  induction n generalizing a1 a2 a3 a4 a5 a6 with
  | zero => exact h.elim
  | succ n ih => exact step (lz6 body n) (fun a1 a2 a3 a4 a5 a6 h => ih h) a1 a2 a3 a4 a5 a6 h
theorem Lz6_by {T1 T2 T3 T4 T5 T6 : Type} {body : (T1 → T2 → T3 → T4 → T5 → T6 → Prop) → T1 → T2 → T3 → T4 → T5 → T6 → Prop} (I : T1 → T2 → T3 → T4 → T5 → T6 → Prop) (μ : T1 → T2 → T3 → T4 → T5 → T6 → Nat) (a1 : T1) (a2 : T2) (a3 : T3) (a4 : T4) (a5 : T5) (a6 : T6) (h0 : I a1 a2 a3 a4 a5 a6) (step : ∀ (a1 : T1) (a2 : T2) (a3 : T3) (a4 : T4) (a5 : T5) (a6 : T6), I a1 a2 a3 a4 a5 a6 → ∀ (again : T1 → T2 → T3 → T4 → T5 → T6 → Prop), (∀ (b1 : T1) (b2 : T2) (b3 : T3) (b4 : T4) (b5 : T5) (b6 : T6), I b1 b2 b3 b4 b5 b6 → μ b1 b2 b3 b4 b5 b6 < μ a1 a2 a3 a4 a5 a6 → again b1 b2 b3 b4 b5 b6) → body again a1 a2 a3 a4 a5 a6) : Lz6 body a1 a2 a3 a4 a5 a6 := by
  have key : ∀ (n : Nat) (a1 : T1) (a2 : T2) (a3 : T3) (a4 : T4) (a5 : T5) (a6 : T6), I a1 a2 a3 a4 a5 a6 → μ a1 a2 a3 a4 a5 a6 < n → lz6 body n a1 a2 a3 a4 a5 a6 := by
    intro n
    induction n with
    | zero => intro a1 a2 a3 a4 a5 a6 _ h; exact absurd h (Nat.not_lt_zero _)
    | succ n ih => intro a1 a2 a3 a4 a5 a6 hI hm; exact step a1 a2 a3 a4 a5 a6 hI (lz6 body n) (fun b1 b2 b3 b4 b5 b6 hI2 hm2 => ih b1 b2 b3 b4 b5 b6 hI2 (Nat.lt_of_lt_of_le hm2 (Nat.le_of_lt_succ hm)))
  exact ⟨_, key (μ a1 a2 a3 a4 a5 a6 + 1) a1 a2 a3 a4 a5 a6 h0 (Nat.lt_succ_self _)⟩
def lz7 {T1 T2 T3 T4 T5 T6 T7 : Type} (body : (T1 → T2 → T3 → T4 → T5 → T6 → T7 → Prop) → T1 → T2 → T3 → T4 → T5 → T6 → T7 → Prop) : Nat → T1 → T2 → T3 → T4 → T5 → T6 → T7 → Prop
  | 0 => fun _ _ _ _ _ _ _ => False
  | n + 1 => body (lz7 body n)
def Lz7 {T1 T2 T3 T4 T5 T6 T7 : Type} (body : (T1 → T2 → T3 → T4 → T5 → T6 → T7 → Prop) → T1 → T2 → T3 → T4 → T5 → T6 → T7 → Prop) (a1 : T1) (a2 : T2) (a3 : T3) (a4 : T4) (a5 : T5) (a6 : T6) (a7 : T7) : Prop := ∃ n, lz7 body n a1 a2 a3 a4 a5 a6 a7
theorem Lz7_go {T1 T2 T3 T4 T5 T6 T7 : Type} {body : (T1 → T2 → T3 → T4 → T5 → T6 → T7 → Prop) → T1 → T2 → T3 → T4 → T5 → T6 → T7 → Prop} {a1 : T1} {a2 : T2} {a3 : T3} {a4 : T4} {a5 : T5} {a6 : T6} {a7 : T7} {Gg : T1 → T2 → T3 → T4 → T5 → T6 → T7 → Prop} (h : Lz7 body a1 a2 a3 a4 a5 a6 a7) (step : ∀ (again : T1 → T2 → T3 → T4 → T5 → T6 → T7 → Prop), (∀ (a1 : T1) (a2 : T2) (a3 : T3) (a4 : T4) (a5 : T5) (a6 : T6) (a7 : T7), again a1 a2 a3 a4 a5 a6 a7 → Gg a1 a2 a3 a4 a5 a6 a7) → ∀ (a1 : T1) (a2 : T2) (a3 : T3) (a4 : T4) (a5 : T5) (a6 : T6) (a7 : T7), body again a1 a2 a3 a4 a5 a6 a7 → Gg a1 a2 a3 a4 a5 a6 a7) : Gg a1 a2 a3 a4 a5 a6 a7 := by
  obtain ⟨n, h⟩ := h
  induction n generalizing a1 a2 a3 a4 a5 a6 a7 with
  | zero => exact h.elim
  | succ n ih => exact step (lz7 body n) (fun a1 a2 a3 a4 a5 a6 a7 h => ih h) a1 a2 a3 a4 a5 a6 a7 h
theorem Lz7_by {T1 T2 T3 T4 T5 T6 T7 : Type} {body : (T1 → T2 → T3 → T4 → T5 → T6 → T7 → Prop) → T1 → T2 → T3 → T4 → T5 → T6 → T7 → Prop} (I : T1 → T2 → T3 → T4 → T5 → T6 → T7 → Prop) (μ : T1 → T2 → T3 → T4 → T5 → T6 → T7 → Nat) (a1 : T1) (a2 : T2) (a3 : T3) (a4 : T4) (a5 : T5) (a6 : T6) (a7 : T7) (h0 : I a1 a2 a3 a4 a5 a6 a7) (step : ∀ (a1 : T1) (a2 : T2) (a3 : T3) (a4 : T4) (a5 : T5) (a6 : T6) (a7 : T7), I a1 a2 a3 a4 a5 a6 a7 → ∀ (again : T1 → T2 → T3 → T4 → T5 → T6 → T7 → Prop), (∀ (b1 : T1) (b2 : T2) (b3 : T3) (b4 : T4) (b5 : T5) (b6 : T6) (b7 : T7), I b1 b2 b3 b4 b5 b6 b7 → μ b1 b2 b3 b4 b5 b6 b7 < μ a1 a2 a3 a4 a5 a6 a7 → again b1 b2 b3 b4 b5 b6 b7) → body again a1 a2 a3 a4 a5 a6 a7) : Lz7 body a1 a2 a3 a4 a5 a6 a7 := by
  have key : ∀ (n : Nat) (a1 : T1) (a2 : T2) (a3 : T3) (a4 : T4) (a5 : T5) (a6 : T6) (a7 : T7), I a1 a2 a3 a4 a5 a6 a7 → μ a1 a2 a3 a4 a5 a6 a7 < n → lz7 body n a1 a2 a3 a4 a5 a6 a7 := by
    intro n
    induction n with
    | zero => intro a1 a2 a3 a4 a5 a6 a7 _ h; exact absurd h (Nat.not_lt_zero _)
    | succ n ih => intro a1 a2 a3 a4 a5 a6 a7 hI hm; exact step a1 a2 a3 a4 a5 a6 a7 hI (lz7 body n) (fun b1 b2 b3 b4 b5 b6 b7 hI2 hm2 => ih b1 b2 b3 b4 b5 b6 b7 hI2 (Nat.lt_of_lt_of_le hm2 (Nat.le_of_lt_succ hm)))
  exact ⟨_, key (μ a1 a2 a3 a4 a5 a6 a7 + 1) a1 a2 a3 a4 a5 a6 a7 h0 (Nat.lt_succ_self _)⟩
def lz8 {T1 T2 T3 T4 T5 T6 T7 T8 : Type} (body : (T1 → T2 → T3 → T4 → T5 → T6 → T7 → T8 → Prop) → T1 → T2 → T3 → T4 → T5 → T6 → T7 → T8 → Prop) : Nat → T1 → T2 → T3 → T4 → T5 → T6 → T7 → T8 → Prop
  | 0 => fun _ _ _ _ _ _ _ _ => False
  | n + 1 => body (lz8 body n)
def Lz8 {T1 T2 T3 T4 T5 T6 T7 T8 : Type} (body : (T1 → T2 → T3 → T4 → T5 → T6 → T7 → T8 → Prop) → T1 → T2 → T3 → T4 → T5 → T6 → T7 → T8 → Prop) (a1 : T1) (a2 : T2) (a3 : T3) (a4 : T4) (a5 : T5) (a6 : T6) (a7 : T7) (a8 : T8) : Prop := ∃ n, lz8 body n a1 a2 a3 a4 a5 a6 a7 a8
theorem Lz8_go {T1 T2 T3 T4 T5 T6 T7 T8 : Type} {body : (T1 → T2 → T3 → T4 → T5 → T6 → T7 → T8 → Prop) → T1 → T2 → T3 → T4 → T5 → T6 → T7 → T8 → Prop} {a1 : T1} {a2 : T2} {a3 : T3} {a4 : T4} {a5 : T5} {a6 : T6} {a7 : T7} {a8 : T8} {Gg : T1 → T2 → T3 → T4 → T5 → T6 → T7 → T8 → Prop} (h : Lz8 body a1 a2 a3 a4 a5 a6 a7 a8) (step : ∀ (again : T1 → T2 → T3 → T4 → T5 → T6 → T7 → T8 → Prop), (∀ (a1 : T1) (a2 : T2) (a3 : T3) (a4 : T4) (a5 : T5) (a6 : T6) (a7 : T7) (a8 : T8), again a1 a2 a3 a4 a5 a6 a7 a8 → Gg a1 a2 a3 a4 a5 a6 a7 a8) → ∀ (a1 : T1) (a2 : T2) (a3 : T3) (a4 : T4) (a5 : T5) (a6 : T6) (a7 : T7) (a8 : T8), body again a1 a2 a3 a4 a5 a6 a7 a8 → Gg a1 a2 a3 a4 a5 a6 a7 a8) : Gg a1 a2 a3 a4 a5 a6 a7 a8 := by
  obtain ⟨n, h⟩ := h
  induction n generalizing a1 a2 a3 a4 a5 a6 a7 a8 with
  | zero => exact h.elim
  | succ n ih => exact step (lz8 body n) (fun a1 a2 a3 a4 a5 a6 a7 a8 h => ih h) a1 a2 a3 a4 a5 a6 a7 a8 h
theorem Lz8_by {T1 T2 T3 T4 T5 T6 T7 T8 : Type} {body : (T1 → T2 → T3 → T4 → T5 → T6 → T7 → T8 → Prop) → T1 → T2 → T3 → T4 → T5 → T6 → T7 → T8 → Prop} (I : T1 → T2 → T3 → T4 → T5 → T6 → T7 → T8 → Prop) (μ : T1 → T2 → T3 → T4 → T5 → T6 → T7 → T8 → Nat) (a1 : T1) (a2 : T2) (a3 : T3) (a4 : T4) (a5 : T5) (a6 : T6) (a7 : T7) (a8 : T8) (h0 : I a1 a2 a3 a4 a5 a6 a7 a8) (step : ∀ (a1 : T1) (a2 : T2) (a3 : T3) (a4 : T4) (a5 : T5) (a6 : T6) (a7 : T7) (a8 : T8), I a1 a2 a3 a4 a5 a6 a7 a8 → ∀ (again : T1 → T2 → T3 → T4 → T5 → T6 → T7 → T8 → Prop), (∀ (b1 : T1) (b2 : T2) (b3 : T3) (b4 : T4) (b5 : T5) (b6 : T6) (b7 : T7) (b8 : T8), I b1 b2 b3 b4 b5 b6 b7 b8 → μ b1 b2 b3 b4 b5 b6 b7 b8 < μ a1 a2 a3 a4 a5 a6 a7 a8 → again b1 b2 b3 b4 b5 b6 b7 b8) → body again a1 a2 a3 a4 a5 a6 a7 a8) : Lz8 body a1 a2 a3 a4 a5 a6 a7 a8 := by
  have key : ∀ (n : Nat) (a1 : T1) (a2 : T2) (a3 : T3) (a4 : T4) (a5 : T5) (a6 : T6) (a7 : T7) (a8 : T8), I a1 a2 a3 a4 a5 a6 a7 a8 → μ a1 a2 a3 a4 a5 a6 a7 a8 < n → lz8 body n a1 a2 a3 a4 a5 a6 a7 a8 := by
    intro n
    induction n with
    | zero => intro a1 a2 a3 a4 a5 a6 a7 a8 _ h; exact absurd h (Nat.not_lt_zero _)
    | succ n ih => intro a1 a2 a3 a4 a5 a6 a7 a8 hI hm; exact step a1 a2 a3 a4 a5 a6 a7 a8 hI (lz8 body n) (fun b1 b2 b3 b4 b5 b6 b7 b8 hI2 hm2 => ih b1 b2 b3 b4 b5 b6 b7 b8 hI2 (Nat.lt_of_lt_of_le hm2 (Nat.le_of_lt_succ hm)))
  exact ⟨_, key (μ a1 a2 a3 a4 a5 a6 a7 a8 + 1) a1 a2 a3 a4 a5 a6 a7 a8 h0 (Nat.lt_succ_self _)⟩
def lz9 {T1 T2 T3 T4 T5 T6 T7 T8 T9 : Type} (body : (T1 → T2 → T3 → T4 → T5 → T6 → T7 → T8 → T9 → Prop) → T1 → T2 → T3 → T4 → T5 → T6 → T7 → T8 → T9 → Prop) : Nat → T1 → T2 → T3 → T4 → T5 → T6 → T7 → T8 → T9 → Prop
  | 0 => fun _ _ _ _ _ _ _ _ _ => False
  | n + 1 => body (lz9 body n)
def Lz9 {T1 T2 T3 T4 T5 T6 T7 T8 T9 : Type} (body : (T1 → T2 → T3 → T4 → T5 → T6 → T7 → T8 → T9 → Prop) → T1 → T2 → T3 → T4 → T5 → T6 → T7 → T8 → T9 → Prop) (a1 : T1) (a2 : T2) (a3 : T3) (a4 : T4) (a5 : T5) (a6 : T6) (a7 : T7) (a8 : T8) (a9 : T9) : Prop := ∃ n, lz9 body n a1 a2 a3 a4 a5 a6 a7 a8 a9
theorem Lz9_go {T1 T2 T3 T4 T5 T6 T7 T8 T9 : Type} {body : (T1 → T2 → T3 → T4 → T5 → T6 → T7 → T8 → T9 → Prop) → T1 → T2 → T3 → T4 → T5 → T6 → T7 → T8 → T9 → Prop} {a1 : T1} {a2 : T2} {a3 : T3} {a4 : T4} {a5 : T5} {a6 : T6} {a7 : T7} {a8 : T8} {a9 : T9} {Gg : T1 → T2 → T3 → T4 → T5 → T6 → T7 → T8 → T9 → Prop} (h : Lz9 body a1 a2 a3 a4 a5 a6 a7 a8 a9) (step : ∀ (again : T1 → T2 → T3 → T4 → T5 → T6 → T7 → T8 → T9 → Prop), (∀ (a1 : T1) (a2 : T2) (a3 : T3) (a4 : T4) (a5 : T5) (a6 : T6) (a7 : T7) (a8 : T8) (a9 : T9), again a1 a2 a3 a4 a5 a6 a7 a8 a9 → Gg a1 a2 a3 a4 a5 a6 a7 a8 a9) → ∀ (a1 : T1) (a2 : T2) (a3 : T3) (a4 : T4) (a5 : T5) (a6 : T6) (a7 : T7) (a8 : T8) (a9 : T9), body again a1 a2 a3 a4 a5 a6 a7 a8 a9 → Gg a1 a2 a3 a4 a5 a6 a7 a8 a9) : Gg a1 a2 a3 a4 a5 a6 a7 a8 a9 := by
  obtain ⟨n, h⟩ := h
  induction n generalizing a1 a2 a3 a4 a5 a6 a7 a8 a9 with
  | zero => exact h.elim
  | succ n ih => exact step (lz9 body n) (fun a1 a2 a3 a4 a5 a6 a7 a8 a9 h => ih h) a1 a2 a3 a4 a5 a6 a7 a8 a9 h
theorem Lz9_by {T1 T2 T3 T4 T5 T6 T7 T8 T9 : Type} {body : (T1 → T2 → T3 → T4 → T5 → T6 → T7 → T8 → T9 → Prop) → T1 → T2 → T3 → T4 → T5 → T6 → T7 → T8 → T9 → Prop} (I : T1 → T2 → T3 → T4 → T5 → T6 → T7 → T8 → T9 → Prop) (μ : T1 → T2 → T3 → T4 → T5 → T6 → T7 → T8 → T9 → Nat) (a1 : T1) (a2 : T2) (a3 : T3) (a4 : T4) (a5 : T5) (a6 : T6) (a7 : T7) (a8 : T8) (a9 : T9) (h0 : I a1 a2 a3 a4 a5 a6 a7 a8 a9) (step : ∀ (a1 : T1) (a2 : T2) (a3 : T3) (a4 : T4) (a5 : T5) (a6 : T6) (a7 : T7) (a8 : T8) (a9 : T9), I a1 a2 a3 a4 a5 a6 a7 a8 a9 → ∀ (again : T1 → T2 → T3 → T4 → T5 → T6 → T7 → T8 → T9 → Prop), (∀ (b1 : T1) (b2 : T2) (b3 : T3) (b4 : T4) (b5 : T5) (b6 : T6) (b7 : T7) (b8 : T8) (b9 : T9), I b1 b2 b3 b4 b5 b6 b7 b8 b9 → μ b1 b2 b3 b4 b5 b6 b7 b8 b9 < μ a1 a2 a3 a4 a5 a6 a7 a8 a9 → again b1 b2 b3 b4 b5 b6 b7 b8 b9) → body again a1 a2 a3 a4 a5 a6 a7 a8 a9) : Lz9 body a1 a2 a3 a4 a5 a6 a7 a8 a9 := by
  have key : ∀ (n : Nat) (a1 : T1) (a2 : T2) (a3 : T3) (a4 : T4) (a5 : T5) (a6 : T6) (a7 : T7) (a8 : T8) (a9 : T9), I a1 a2 a3 a4 a5 a6 a7 a8 a9 → μ a1 a2 a3 a4 a5 a6 a7 a8 a9 < n → lz9 body n a1 a2 a3 a4 a5 a6 a7 a8 a9 := by
    intro n
    induction n with
    | zero => intro a1 a2 a3 a4 a5 a6 a7 a8 a9 _ h; exact absurd h (Nat.not_lt_zero _)
    | succ n ih => intro a1 a2 a3 a4 a5 a6 a7 a8 a9 hI hm; exact step a1 a2 a3 a4 a5 a6 a7 a8 a9 hI (lz9 body n) (fun b1 b2 b3 b4 b5 b6 b7 b8 b9 hI2 hm2 => ih b1 b2 b3 b4 b5 b6 b7 b8 b9 hI2 (Nat.lt_of_lt_of_le hm2 (Nat.le_of_lt_succ hm)))
  exact ⟨_, key (μ a1 a2 a3 a4 a5 a6 a7 a8 a9 + 1) a1 a2 a3 a4 a5 a6 a7 a8 a9 h0 (Nat.lt_succ_self _)⟩
def lz10 {T1 T2 T3 T4 T5 T6 T7 T8 T9 T10 : Type} (body : (T1 → T2 → T3 → T4 → T5 → T6 → T7 → T8 → T9 → T10 → Prop) → T1 → T2 → T3 → T4 → T5 → T6 → T7 → T8 → T9 → T10 → Prop) : Nat → T1 → T2 → T3 → T4 → T5 → T6 → T7 → T8 → T9 → T10 → Prop
  | 0 => fun _ _ _ _ _ _ _ _ _ _ => False
  | n + 1 => body (lz10 body n)
def Lz10 {T1 T2 T3 T4 T5 T6 T7 T8 T9 T10 : Type} (body : (T1 → T2 → T3 → T4 → T5 → T6 → T7 → T8 → T9 → T10 → Prop) → T1 → T2 → T3 → T4 → T5 → T6 → T7 → T8 → T9 → T10 → Prop) (a1 : T1) (a2 : T2) (a3 : T3) (a4 : T4) (a5 : T5) (a6 : T6) (a7 : T7) (a8 : T8) (a9 : T9) (a10 : T10) : Prop := ∃ n, lz10 body n a1 a2 a3 a4 a5 a6 a7 a8 a9 a10
theorem Lz10_go {T1 T2 T3 T4 T5 T6 T7 T8 T9 T10 : Type} {body : (T1 → T2 → T3 → T4 → T5 → T6 → T7 → T8 → T9 → T10 → Prop) → T1 → T2 → T3 → T4 → T5 → T6 → T7 → T8 → T9 → T10 → Prop} {a1 : T1} {a2 : T2} {a3 : T3} {a4 : T4} {a5 : T5} {a6 : T6} {a7 : T7} {a8 : T8} {a9 : T9} {a10 : T10} {Gg : T1 → T2 → T3 → T4 → T5 → T6 → T7 → T8 → T9 → T10 → Prop} (h : Lz10 body a1 a2 a3 a4 a5 a6 a7 a8 a9 a10) (step : ∀ (again : T1 → T2 → T3 → T4 → T5 → T6 → T7 → T8 → T9 → T10 → Prop), (∀ (a1 : T1) (a2 : T2) (a3 : T3) (a4 : T4) (a5 : T5) (a6 : T6) (a7 : T7) (a8 : T8) (a9 : T9) (a10 : T10), again a1 a2 a3 a4 a5 a6 a7 a8 a9 a10 → Gg a1 a2 a3 a4 a5 a6 a7 a8 a9 a10) → ∀ (a1 : T1) (a2 : T2) (a3 : T3) (a4 : T4) (a5 : T5) (a6 : T6) (a7 : T7) (a8 : T8) (a9 : T9) (a10 : T10), body again a1 a2 a3 a4 a5 a6 a7 a8 a9 a10 → Gg a1 a2 a3 a4 a5 a6 a7 a8 a9 a10) : Gg a1 a2 a3 a4 a5 a6 a7 a8 a9 a10 := by
  obtain ⟨n, h⟩ := h
  induction n generalizing a1 a2 a3 a4 a5 a6 a7 a8 a9 a10 with
  | zero => exact h.elim
  | succ n ih => exact step (lz10 body n) (fun a1 a2 a3 a4 a5 a6 a7 a8 a9 a10 h => ih h) a1 a2 a3 a4 a5 a6 a7 a8 a9 a10 h
theorem Lz10_by {T1 T2 T3 T4 T5 T6 T7 T8 T9 T10 : Type} {body : (T1 → T2 → T3 → T4 → T5 → T6 → T7 → T8 → T9 → T10 → Prop) → T1 → T2 → T3 → T4 → T5 → T6 → T7 → T8 → T9 → T10 → Prop} (I : T1 → T2 → T3 → T4 → T5 → T6 → T7 → T8 → T9 → T10 → Prop) (μ : T1 → T2 → T3 → T4 → T5 → T6 → T7 → T8 → T9 → T10 → Nat) (a1 : T1) (a2 : T2) (a3 : T3) (a4 : T4) (a5 : T5) (a6 : T6) (a7 : T7) (a8 : T8) (a9 : T9) (a10 : T10) (h0 : I a1 a2 a3 a4 a5 a6 a7 a8 a9 a10) (step : ∀ (a1 : T1) (a2 : T2) (a3 : T3) (a4 : T4) (a5 : T5) (a6 : T6) (a7 : T7) (a8 : T8) (a9 : T9) (a10 : T10), I a1 a2 a3 a4 a5 a6 a7 a8 a9 a10 → ∀ (again : T1 → T2 → T3 → T4 → T5 → T6 → T7 → T8 → T9 → T10 → Prop), (∀ (b1 : T1) (b2 : T2) (b3 : T3) (b4 : T4) (b5 : T5) (b6 : T6) (b7 : T7) (b8 : T8) (b9 : T9) (b10 : T10), I b1 b2 b3 b4 b5 b6 b7 b8 b9 b10 → μ b1 b2 b3 b4 b5 b6 b7 b8 b9 b10 < μ a1 a2 a3 a4 a5 a6 a7 a8 a9 a10 → again b1 b2 b3 b4 b5 b6 b7 b8 b9 b10) → body again a1 a2 a3 a4 a5 a6 a7 a8 a9 a10) : Lz10 body a1 a2 a3 a4 a5 a6 a7 a8 a9 a10 := by
  have key : ∀ (n : Nat) (a1 : T1) (a2 : T2) (a3 : T3) (a4 : T4) (a5 : T5) (a6 : T6) (a7 : T7) (a8 : T8) (a9 : T9) (a10 : T10), I a1 a2 a3 a4 a5 a6 a7 a8 a9 a10 → μ a1 a2 a3 a4 a5 a6 a7 a8 a9 a10 < n → lz10 body n a1 a2 a3 a4 a5 a6 a7 a8 a9 a10 := by
    intro n
    induction n with
    | zero => intro a1 a2 a3 a4 a5 a6 a7 a8 a9 a10 _ h; exact absurd h (Nat.not_lt_zero _)
    | succ n ih => intro a1 a2 a3 a4 a5 a6 a7 a8 a9 a10 hI hm; exact step a1 a2 a3 a4 a5 a6 a7 a8 a9 a10 hI (lz10 body n) (fun b1 b2 b3 b4 b5 b6 b7 b8 b9 b10 hI2 hm2 => ih b1 b2 b3 b4 b5 b6 b7 b8 b9 b10 hI2 (Nat.lt_of_lt_of_le hm2 (Nat.le_of_lt_succ hm)))
  exact ⟨_, key (μ a1 a2 a3 a4 a5 a6 a7 a8 a9 a10 + 1) a1 a2 a3 a4 a5 a6 a7 a8 a9 a10 h0 (Nat.lt_succ_self _)⟩
def lz11 {T1 T2 T3 T4 T5 T6 T7 T8 T9 T10 T11 : Type} (body : (T1 → T2 → T3 → T4 → T5 → T6 → T7 → T8 → T9 → T10 → T11 → Prop) → T1 → T2 → T3 → T4 → T5 → T6 → T7 → T8 → T9 → T10 → T11 → Prop) : Nat → T1 → T2 → T3 → T4 → T5 → T6 → T7 → T8 → T9 → T10 → T11 → Prop
  | 0 => fun _ _ _ _ _ _ _ _ _ _ _ => False
  | n + 1 => body (lz11 body n)
def Lz11 {T1 T2 T3 T4 T5 T6 T7 T8 T9 T10 T11 : Type} (body : (T1 → T2 → T3 → T4 → T5 → T6 → T7 → T8 → T9 → T10 → T11 → Prop) → T1 → T2 → T3 → T4 → T5 → T6 → T7 → T8 → T9 → T10 → T11 → Prop) (a1 : T1) (a2 : T2) (a3 : T3) (a4 : T4) (a5 : T5) (a6 : T6) (a7 : T7) (a8 : T8) (a9 : T9) (a10 : T10) (a11 : T11) : Prop := ∃ n, lz11 body n a1 a2 a3 a4 a5 a6 a7 a8 a9 a10 a11
theorem Lz11_go {T1 T2 T3 T4 T5 T6 T7 T8 T9 T10 T11 : Type} {body : (T1 → T2 → T3 → T4 → T5 → T6 → T7 → T8 → T9 → T10 → T11 → Prop) → T1 → T2 → T3 → T4 → T5 → T6 → T7 → T8 → T9 → T10 → T11 → Prop} {a1 : T1} {a2 : T2} {a3 : T3} {a4 : T4} {a5 : T5} {a6 : T6} {a7 : T7} {a8 : T8} {a9 : T9} {a10 : T10} {a11 : T11} {Gg : T1 → T2 → T3 → T4 → T5 → T6 → T7 → T8 → T9 → T10 → T11 → Prop} (h : Lz11 body a1 a2 a3 a4 a5 a6 a7 a8 a9 a10 a11) (step : ∀ (again : T1 → T2 → T3 → T4 → T5 → T6 → T7 → T8 → T9 → T10 → T11 → Prop), (∀ (a1 : T1) (a2 : T2) (a3 : T3) (a4 : T4) (a5 : T5) (a6 : T6) (a7 : T7) (a8 : T8) (a9 : T9) (a10 : T10) (a11 : T11), again a1 a2 a3 a4 a5 a6 a7 a8 a9 a10 a11 → Gg a1 a2 a3 a4 a5 a6 a7 a8 a9 a10 a11) → ∀ (a1 : T1) (a2 : T2) (a3 : T3) (a4 : T4) (a5 : T5) (a6 : T6) (a7 : T7) (a8 : T8) (a9 : T9) (a10 : T10) (a11 : T11), body again a1 a2 a3 a4 a5 a6 a7 a8 a9 a10 a11 → Gg a1 a2 a3 a4 a5 a6 a7 a8 a9 a10 a11) : Gg a1 a2 a3 a4 a5 a6 a7 a8 a9 a10 a11 := by
  obtain ⟨n, h⟩ := h
  induction n generalizing a1 a2 a3 a4 a5 a6 a7 a8 a9 a10 a11 with
  | zero => exact h.elim
  | succ n ih => exact step (lz11 body n) (fun a1 a2 a3 a4 a5 a6 a7 a8 a9 a10 a11 h => ih h) a1 a2 a3 a4 a5 a6 a7 a8 a9 a10 a11 h
theorem Lz11_by {T1 T2 T3 T4 T5 T6 T7 T8 T9 T10 T11 : Type} {body : (T1 → T2 → T3 → T4 → T5 → T6 → T7 → T8 → T9 → T10 → T11 → Prop) → T1 → T2 → T3 → T4 → T5 → T6 → T7 → T8 → T9 → T10 → T11 → Prop} (I : T1 → T2 → T3 → T4 → T5 → T6 → T7 → T8 → T9 → T10 → T11 → Prop) (μ : T1 → T2 → T3 → T4 → T5 → T6 → T7 → T8 → T9 → T10 → T11 → Nat) (a1 : T1) (a2 : T2) (a3 : T3) (a4 : T4) (a5 : T5) (a6 : T6) (a7 : T7) (a8 : T8) (a9 : T9) (a10 : T10) (a11 : T11) (h0 : I a1 a2 a3 a4 a5 a6 a7 a8 a9 a10 a11) (step : ∀ (a1 : T1) (a2 : T2) (a3 : T3) (a4 : T4) (a5 : T5) (a6 : T6) (a7 : T7) (a8 : T8) (a9 : T9) (a10 : T10) (a11 : T11), I a1 a2 a3 a4 a5 a6 a7 a8 a9 a10 a11 → ∀ (again : T1 → T2 → T3 → T4 → T5 → T6 → T7 → T8 → T9 → T10 → T11 → Prop), (∀ (b1 : T1) (b2 : T2) (b3 : T3) (b4 : T4) (b5 : T5) (b6 : T6) (b7 : T7) (b8 : T8) (b9 : T9) (b10 : T10) (b11 : T11), I b1 b2 b3 b4 b5 b6 b7 b8 b9 b10 b11 → μ b1 b2 b3 b4 b5 b6 b7 b8 b9 b10 b11 < μ a1 a2 a3 a4 a5 a6 a7 a8 a9 a10 a11 → again b1 b2 b3 b4 b5 b6 b7 b8 b9 b10 b11) → body again a1 a2 a3 a4 a5 a6 a7 a8 a9 a10 a11) : Lz11 body a1 a2 a3 a4 a5 a6 a7 a8 a9 a10 a11 := by
  have key : ∀ (n : Nat) (a1 : T1) (a2 : T2) (a3 : T3) (a4 : T4) (a5 : T5) (a6 : T6) (a7 : T7) (a8 : T8) (a9 : T9) (a10 : T10) (a11 : T11), I a1 a2 a3 a4 a5 a6 a7 a8 a9 a10 a11 → μ a1 a2 a3 a4 a5 a6 a7 a8 a9 a10 a11 < n → lz11 body n a1 a2 a3 a4 a5 a6 a7 a8 a9 a10 a11 := by
    intro n
    induction n with
    | zero => intro a1 a2 a3 a4 a5 a6 a7 a8 a9 a10 a11 _ h; exact absurd h (Nat.not_lt_zero _)
    | succ n ih => intro a1 a2 a3 a4 a5 a6 a7 a8 a9 a10 a11 hI hm; exact step a1 a2 a3 a4 a5 a6 a7 a8 a9 a10 a11 hI (lz11 body n) (fun b1 b2 b3 b4 b5 b6 b7 b8 b9 b10 b11 hI2 hm2 => ih b1 b2 b3 b4 b5 b6 b7 b8 b9 b10 b11 hI2 (Nat.lt_of_lt_of_le hm2 (Nat.le_of_lt_succ hm)))
  exact ⟨_, key (μ a1 a2 a3 a4 a5 a6 a7 a8 a9 a10 a11 + 1) a1 a2 a3 a4 a5 a6 a7 a8 a9 a10 a11 h0 (Nat.lt_succ_self _)⟩
def lz12 {T1 T2 T3 T4 T5 T6 T7 T8 T9 T10 T11 T12 : Type} (body : (T1 → T2 → T3 → T4 → T5 → T6 → T7 → T8 → T9 → T10 → T11 → T12 → Prop) → T1 → T2 → T3 → T4 → T5 → T6 → T7 → T8 → T9 → T10 → T11 → T12 → Prop) : Nat → T1 → T2 → T3 → T4 → T5 → T6 → T7 → T8 → T9 → T10 → T11 → T12 → Prop
  | 0 => fun _ _ _ _ _ _ _ _ _ _ _ _ => False
  | n + 1 => body (lz12 body n)
def Lz12 {T1 T2 T3 T4 T5 T6 T7 T8 T9 T10 T11 T12 : Type} (body : (T1 → T2 → T3 → T4 → T5 → T6 → T7 → T8 → T9 → T10 → T11 → T12 → Prop) → T1 → T2 → T3 → T4 → T5 → T6 → T7 → T8 → T9 → T10 → T11 → T12 → Prop) (a1 : T1) (a2 : T2) (a3 : T3) (a4 : T4) (a5 : T5) (a6 : T6) (a7 : T7) (a8 : T8) (a9 : T9) (a10 : T10) (a11 : T11) (a12 : T12) : Prop := ∃ n, lz12 body n a1 a2 a3 a4 a5 a6 a7 a8 a9 a10 a11 a12
theorem Lz12_go {T1 T2 T3 T4 T5 T6 T7 T8 T9 T10 T11 T12 : Type} {body : (T1 → T2 → T3 → T4 → T5 → T6 → T7 → T8 → T9 → T10 → T11 → T12 → Prop) → T1 → T2 → T3 → T4 → T5 → T6 → T7 → T8 → T9 → T10 → T11 → T12 → Prop} {a1 : T1} {a2 : T2} {a3 : T3} {a4 : T4} {a5 : T5} {a6 : T6} {a7 : T7} {a8 : T8} {a9 : T9} {a10 : T10} {a11 : T11} {a12 : T12} {Gg : T1 → T2 → T3 → T4 → T5 → T6 → T7 → T8 → T9 → T10 → T11 → T12 → Prop} (h : Lz12 body a1 a2 a3 a4 a5 a6 a7 a8 a9 a10 a11 a12) (step : ∀ (again : T1 → T2 → T3 → T4 → T5 → T6 → T7 → T8 → T9 → T10 → T11 → T12 → Prop), (∀ (a1 : T1) (a2 : T2) (a3 : T3) (a4 : T4) (a5 : T5) (a6 : T6) (a7 : T7) (a8 : T8) (a9 : T9) (a10 : T10) (a11 : T11) (a12 : T12), again a1 a2 a3 a4 a5 a6 a7 a8 a9 a10 a11 a12 → Gg a1 a2 a3 a4 a5 a6 a7 a8 a9 a10 a11 a12) → ∀ (a1 : T1) (a2 : T2) (a3 : T3) (a4 : T4) (a5 : T5) (a6 : T6) (a7 : T7) (a8 : T8) (a9 : T9) (a10 : T10) (a11 : T11) (a12 : T12), body again a1 a2 a3 a4 a5 a6 a7 a8 a9 a10 a11 a12 → Gg a1 a2 a3 a4 a5 a6 a7 a8 a9 a10 a11 a12) : Gg a1 a2 a3 a4 a5 a6 a7 a8 a9 a10 a11 a12 := by
  obtain ⟨n, h⟩ := h
  induction n generalizing a1 a2 a3 a4 a5 a6 a7 a8 a9 a10 a11 a12 with
  | zero => exact h.elim
  | succ n ih => exact step (lz12 body n) (fun a1 a2 a3 a4 a5 a6 a7 a8 a9 a10 a11 a12 h => ih h) a1 a2 a3 a4 a5 a6 a7 a8 a9 a10 a11 a12 h
theorem Lz12_by {T1 T2 T3 T4 T5 T6 T7 T8 T9 T10 T11 T12 : Type} {body : (T1 → T2 → T3 → T4 → T5 → T6 → T7 → T8 → T9 → T10 → T11 → T12 → Prop) → T1 → T2 → T3 → T4 → T5 → T6 → T7 → T8 → T9 → T10 → T11 → T12 → Prop} (I : T1 → T2 → T3 → T4 → T5 → T6 → T7 → T8 → T9 → T10 → T11 → T12 → Prop) (μ : T1 → T2 → T3 → T4 → T5 → T6 → T7 → T8 → T9 → T10 → T11 → T12 → Nat) (a1 : T1) (a2 : T2) (a3 : T3) (a4 : T4) (a5 : T5) (a6 : T6) (a7 : T7) (a8 : T8) (a9 : T9) (a10 : T10) (a11 : T11) (a12 : T12) (h0 : I a1 a2 a3 a4 a5 a6 a7 a8 a9 a10 a11 a12) (step : ∀ (a1 : T1) (a2 : T2) (a3 : T3) (a4 : T4) (a5 : T5) (a6 : T6) (a7 : T7) (a8 : T8) (a9 : T9) (a10 : T10) (a11 : T11) (a12 : T12), I a1 a2 a3 a4 a5 a6 a7 a8 a9 a10 a11 a12 → ∀ (again : T1 → T2 → T3 → T4 → T5 → T6 → T7 → T8 → T9 → T10 → T11 → T12 → Prop), (∀ (b1 : T1) (b2 : T2) (b3 : T3) (b4 : T4) (b5 : T5) (b6 : T6) (b7 : T7) (b8 : T8) (b9 : T9) (b10 : T10) (b11 : T11) (b12 : T12), I b1 b2 b3 b4 b5 b6 b7 b8 b9 b10 b11 b12 → μ b1 b2 b3 b4 b5 b6 b7 b8 b9 b10 b11 b12 < μ a1 a2 a3 a4 a5 a6 a7 a8 a9 a10 a11 a12 → again b1 b2 b3 b4 b5 b6 b7 b8 b9 b10 b11 b12) → body again a1 a2 a3 a4 a5 a6 a7 a8 a9 a10 a11 a12) : Lz12 body a1 a2 a3 a4 a5 a6 a7 a8 a9 a10 a11 a12 := by
  have key : ∀ (n : Nat) (a1 : T1) (a2 : T2) (a3 : T3) (a4 : T4) (a5 : T5) (a6 : T6) (a7 : T7) (a8 : T8) (a9 : T9) (a10 : T10) (a11 : T11) (a12 : T12), I a1 a2 a3 a4 a5 a6 a7 a8 a9 a10 a11 a12 → μ a1 a2 a3 a4 a5 a6 a7 a8 a9 a10 a11 a12 < n → lz12 body n a1 a2 a3 a4 a5 a6 a7 a8 a9 a10 a11 a12 := by
    intro n
    induction n with
    | zero => intro a1 a2 a3 a4 a5 a6 a7 a8 a9 a10 a11 a12 _ h; exact absurd h (Nat.not_lt_zero _)
    | succ n ih => intro a1 a2 a3 a4 a5 a6 a7 a8 a9 a10 a11 a12 hI hm; exact step a1 a2 a3 a4 a5 a6 a7 a8 a9 a10 a11 a12 hI (lz12 body n) (fun b1 b2 b3 b4 b5 b6 b7 b8 b9 b10 b11 b12 hI2 hm2 => ih b1 b2 b3 b4 b5 b6 b7 b8 b9 b10 b11 b12 hI2 (Nat.lt_of_lt_of_le hm2 (Nat.le_of_lt_succ hm)))
  exact ⟨_, key (μ a1 a2 a3 a4 a5 a6 a7 a8 a9 a10 a11 a12 + 1) a1 a2 a3 a4 a5 a6 a7 a8 a9 a10 a11 a12 h0 (Nat.lt_succ_self _)⟩
def lz13 {T1 T2 T3 T4 T5 T6 T7 T8 T9 T10 T11 T12 T13 : Type} (body : (T1 → T2 → T3 → T4 → T5 → T6 → T7 → T8 → T9 → T10 → T11 → T12 → T13 → Prop) → T1 → T2 → T3 → T4 → T5 → T6 → T7 → T8 → T9 → T10 → T11 → T12 → T13 → Prop) : Nat → T1 → T2 → T3 → T4 → T5 → T6 → T7 → T8 → T9 → T10 → T11 → T12 → T13 → Prop
  | 0 => fun _ _ _ _ _ _ _ _ _ _ _ _ _ => False
  | n + 1 => body (lz13 body n)
def Lz13 {T1 T2 T3 T4 T5 T6 T7 T8 T9 T10 T11 T12 T13 : Type} (body : (T1 → T2 → T3 → T4 → T5 → T6 → T7 → T8 → T9 → T10 → T11 → T12 → T13 → Prop) → T1 → T2 → T3 → T4 → T5 → T6 → T7 → T8 → T9 → T10 → T11 → T12 → T13 → Prop) (a1 : T1) (a2 : T2) (a3 : T3) (a4 : T4) (a5 : T5) (a6 : T6) (a7 : T7) (a8 : T8) (a9 : T9) (a10 : T10) (a11 : T11) (a12 : T12) (a13 : T13) : Prop := ∃ n, lz13 body n a1 a2 a3 a4 a5 a6 a7 a8 a9 a10 a11 a12 a13
theorem Lz13_go {T1 T2 T3 T4 T5 T6 T7 T8 T9 T10 T11 T12 T13 : Type} {body : (T1 → T2 → T3 → T4 → T5 → T6 → T7 → T8 → T9 → T10 → T11 → T12 → T13 → Prop) → T1 → T2 → T3 → T4 → T5 → T6 → T7 → T8 → T9 → T10 → T11 → T12 → T13 → Prop} {a1 : T1} {a2 : T2} {a3 : T3} {a4 : T4} {a5 : T5} {a6 : T6} {a7 : T7} {a8 : T8} {a9 : T9} {a10 : T10} {a11 : T11} {a12 : T12} {a13 : T13} {Gg : T1 → T2 → T3 → T4 → T5 → T6 → T7 → T8 → T9 → T10 → T11 → T12 → T13 → Prop} (h : Lz13 body a1 a2 a3 a4 a5 a6 a7 a8 a9 a10 a11 a12 a13) (step : ∀ (again : T1 → T2 → T3 → T4 → T5 → T6 → T7 → T8 → T9 → T10 → T11 → T12 → T13 → Prop), (∀ (a1 : T1) (a2 : T2) (a3 : T3) (a4 : T4) (a5 : T5) (a6 : T6) (a7 : T7) (a8 : T8) (a9 : T9) (a10 : T10) (a11 : T11) (a12 : T12) (a13 : T13), again a1 a2 a3 a4 a5 a6 a7 a8 a9 a10 a11 a12 a13 → Gg a1 a2 a3 a4 a5 a6 a7 a8 a9 a10 a11 a12 a13) → ∀ (a1 : T1) (a2 : T2) (a3 : T3) (a4 : T4) (a5 : T5) (a6 : T6) (a7 : T7) (a8 : T8) (a9 : T9) (a10 : T10) (a11 : T11) (a12 : T12) (a13 : T13), body again a1 a2 a3 a4 a5 a6 a7 a8 a9 a10 a11 a12 a13 → Gg a1 a2 a3 a4 a5 a6 a7 a8 a9 a10 a11 a12 a13) : Gg a1 a2 a3 a4 a5 a6 a7 a8 a9 a10 a11 a12 a13 := by
  obtain ⟨n, h⟩ := h
  induction n generalizing a1 a2 a3 a4 a5 a6 a7 a8 a9 a10 a11 a12 a13 with
  | zero => exact h.elim
  | succ n ih => exact step (lz13 body n) (fun a1 a2 a3 a4 a5 a6 a7 a8 a9 a10 a11 a12 a13 h => ih h) a1 a2 a3 a4 a5 a6 a7 a8 a9 a10 a11 a12 a13 h
theorem Lz13_by {T1 T2 T3 T4 T5 T6 T7 T8 T9 T10 T11 T12 T13 : Type} {body : (T1 → T2 → T3 → T4 → T5 → T6 → T7 → T8 → T9 → T10 → T11 → T12 → T13 → Prop) → T1 → T2 → T3 → T4 → T5 → T6 → T7 → T8 → T9 → T10 → T11 → T12 → T13 → Prop} (I : T1 → T2 → T3 → T4 → T5 → T6 → T7 → T8 → T9 → T10 → T11 → T12 → T13 → Prop) (μ : T1 → T2 → T3 → T4 → T5 → T6 → T7 → T8 → T9 → T10 → T11 → T12 → T13 → Nat) (a1 : T1) (a2 : T2) (a3 : T3) (a4 : T4) (a5 : T5) (a6 : T6) (a7 : T7) (a8 : T8) (a9 : T9) (a10 : T10) (a11 : T11) (a12 : T12) (a13 : T13) (h0 : I a1 a2 a3 a4 a5 a6 a7 a8 a9 a10 a11 a12 a13) (step : ∀ (a1 : T1) (a2 : T2) (a3 : T3) (a4 : T4) (a5 : T5) (a6 : T6) (a7 : T7) (a8 : T8) (a9 : T9) (a10 : T10) (a11 : T11) (a12 : T12) (a13 : T13), I a1 a2 a3 a4 a5 a6 a7 a8 a9 a10 a11 a12 a13 → ∀ (again : T1 → T2 → T3 → T4 → T5 → T6 → T7 → T8 → T9 → T10 → T11 → T12 → T13 → Prop), (∀ (b1 : T1) (b2 : T2) (b3 : T3) (b4 : T4) (b5 : T5) (b6 : T6) (b7 : T7) (b8 : T8) (b9 : T9) (b10 : T10) (b11 : T11) (b12 : T12) (b13 : T13), I b1 b2 b3 b4 b5 b6 b7 b8 b9 b10 b11 b12 b13 → μ b1 b2 b3 b4 b5 b6 b7 b8 b9 b10 b11 b12 b13 < μ a1 a2 a3 a4 a5 a6 a7 a8 a9 a10 a11 a12 a13 → again b1 b2 b3 b4 b5 b6 b7 b8 b9 b10 b11 b12 b13) → body again a1 a2 a3 a4 a5 a6 a7 a8 a9 a10 a11 a12 a13) : Lz13 body a1 a2 a3 a4 a5 a6 a7 a8 a9 a10 a11 a12 a13 := by
  have key : ∀ (n : Nat) (a1 : T1) (a2 : T2) (a3 : T3) (a4 : T4) (a5 : T5) (a6 : T6) (a7 : T7) (a8 : T8) (a9 : T9) (a10 : T10) (a11 : T11) (a12 : T12) (a13 : T13), I a1 a2 a3 a4 a5 a6 a7 a8 a9 a10 a11 a12 a13 → μ a1 a2 a3 a4 a5 a6 a7 a8 a9 a10 a11 a12 a13 < n → lz13 body n a1 a2 a3 a4 a5 a6 a7 a8 a9 a10 a11 a12 a13 := by
    intro n
    induction n with
    | zero => intro a1 a2 a3 a4 a5 a6 a7 a8 a9 a10 a11 a12 a13 _ h; exact absurd h (Nat.not_lt_zero _)
    | succ n ih => intro a1 a2 a3 a4 a5 a6 a7 a8 a9 a10 a11 a12 a13 hI hm; exact step a1 a2 a3 a4 a5 a6 a7 a8 a9 a10 a11 a12 a13 hI (lz13 body n) (fun b1 b2 b3 b4 b5 b6 b7 b8 b9 b10 b11 b12 b13 hI2 hm2 => ih b1 b2 b3 b4 b5 b6 b7 b8 b9 b10 b11 b12 b13 hI2 (Nat.lt_of_lt_of_le hm2 (Nat.le_of_lt_succ hm)))
  exact ⟨_, key (μ a1 a2 a3 a4 a5 a6 a7 a8 a9 a10 a11 a12 a13 + 1) a1 a2 a3 a4 a5 a6 a7 a8 a9 a10 a11 a12 a13 h0 (Nat.lt_succ_self _)⟩
def lz14 {T1 T2 T3 T4 T5 T6 T7 T8 T9 T10 T11 T12 T13 T14 : Type} (body : (T1 → T2 → T3 → T4 → T5 → T6 → T7 → T8 → T9 → T10 → T11 → T12 → T13 → T14 → Prop) → T1 → T2 → T3 → T4 → T5 → T6 → T7 → T8 → T9 → T10 → T11 → T12 → T13 → T14 → Prop) : Nat → T1 → T2 → T3 → T4 → T5 → T6 → T7 → T8 → T9 → T10 → T11 → T12 → T13 → T14 → Prop
  | 0 => fun _ _ _ _ _ _ _ _ _ _ _ _ _ _ => False
  | n + 1 => body (lz14 body n)
def Lz14 {T1 T2 T3 T4 T5 T6 T7 T8 T9 T10 T11 T12 T13 T14 : Type} (body : (T1 → T2 → T3 → T4 → T5 → T6 → T7 → T8 → T9 → T10 → T11 → T12 → T13 → T14 → Prop) → T1 → T2 → T3 → T4 → T5 → T6 → T7 → T8 → T9 → T10 → T11 → T12 → T13 → T14 → Prop) (a1 : T1) (a2 : T2) (a3 : T3) (a4 : T4) (a5 : T5) (a6 : T6) (a7 : T7) (a8 : T8) (a9 : T9) (a10 : T10) (a11 : T11) (a12 : T12) (a13 : T13) (a14 : T14) : Prop := ∃ n, lz14 body n a1 a2 a3 a4 a5 a6 a7 a8 a9 a10 a11 a12 a13 a14
theorem Lz14_go {T1 T2 T3 T4 T5 T6 T7 T8 T9 T10 T11 T12 T13 T14 : Type} {body : (T1 → T2 → T3 → T4 → T5 → T6 → T7 → T8 → T9 → T10 → T11 → T12 → T13 → T14 → Prop) → T1 → T2 → T3 → T4 → T5 → T6 → T7 → T8 → T9 → T10 → T11 → T12 → T13 → T14 → Prop} {a1 : T1} {a2 : T2} {a3 : T3} {a4 : T4} {a5 : T5} {a6 : T6} {a7 : T7} {a8 : T8} {a9 : T9} {a10 : T10} {a11 : T11} {a12 : T12} {a13 : T13} {a14 : T14} {Gg : T1 → T2 → T3 → T4 → T5 → T6 → T7 → T8 → T9 → T10 → T11 → T12 → T13 → T14 → Prop} (h : Lz14 body a1 a2 a3 a4 a5 a6 a7 a8 a9 a10 a11 a12 a13 a14) (step : ∀ (again : T1 → T2 → T3 → T4 → T5 → T6 → T7 → T8 → T9 → T10 → T11 → T12 → T13 → T14 → Prop), (∀ (a1 : T1) (a2 : T2) (a3 : T3) (a4 : T4) (a5 : T5) (a6 : T6) (a7 : T7) (a8 : T8) (a9 : T9) (a10 : T10) (a11 : T11) (a12 : T12) (a13 : T13) (a14 : T14), again a1 a2 a3 a4 a5 a6 a7 a8 a9 a10 a11 a12 a13 a14 → Gg a1 a2 a3 a4 a5 a6 a7 a8 a9 a10 a11 a12 a13 a14) → ∀ (a1 : T1) (a2 : T2) (a3 : T3) (a4 : T4) (a5 : T5) (a6 : T6) (a7 : T7) (a8 : T8) (a9 : T9) (a10 : T10) (a11 : T11) (a12 : T12) (a13 : T13) (a14 : T14), body again a1 a2 a3 a4 a5 a6 a7 a8 a9 a10 a11 a12 a13 a14 → Gg a1 a2 a3 a4 a5 a6 a7 a8 a9 a10 a11 a12 a13 a14) : Gg a1 a2 a3 a4 a5 a6 a7 a8 a9 a10 a11 a12 a13 a14 := by
  obtain ⟨n, h⟩ := h
  induction n generalizing a1 a2 a3 a4 a5 a6 a7 a8 a9 a10 a11 a12 a13 a14 with
  | zero => exact h.elim
  | succ n ih => exact step (lz14 body n) (fun a1 a2 a3 a4 a5 a6 a7 a8 a9 a10 a11 a12 a13 a14 h => ih h) a1 a2 a3 a4 a5 a6 a7 a8 a9 a10 a11 a12 a13 a14 h
theorem Lz14_by {T1 T2 T3 T4 T5 T6 T7 T8 T9 T10 T11 T12 T13 T14 : Type} {body : (T1 → T2 → T3 → T4 → T5 → T6 → T7 → T8 → T9 → T10 → T11 → T12 → T13 → T14 → Prop) → T1 → T2 → T3 → T4 → T5 → T6 → T7 → T8 → T9 → T10 → T11 → T12 → T13 → T14 → Prop} (I : T1 → T2 → T3 → T4 → T5 → T6 → T7 → T8 → T9 → T10 → T11 → T12 → T13 → T14 → Prop) (μ : T1 → T2 → T3 → T4 → T5 → T6 → T7 → T8 → T9 → T10 → T11 → T12 → T13 → T14 → Nat) (a1 : T1) (a2 : T2) (a3 : T3) (a4 : T4) (a5 : T5) (a6 : T6) (a7 : T7) (a8 : T8) (a9 : T9) (a10 : T10) (a11 : T11) (a12 : T12) (a13 : T13) (a14 : T14) (h0 : I a1 a2 a3 a4 a5 a6 a7 a8 a9 a10 a11 a12 a13 a14) (step : ∀ (a1 : T1) (a2 : T2) (a3 : T3) (a4 : T4) (a5 : T5) (a6 : T6) (a7 : T7) (a8 : T8) (a9 : T9) (a10 : T10) (a11 : T11) (a12 : T12) (a13 : T13) (a14 : T14), I a1 a2 a3 a4 a5 a6 a7 a8 a9 a10 a11 a12 a13 a14 → ∀ (again : T1 → T2 → T3 → T4 → T5 → T6 → T7 → T8 → T9 → T10 → T11 → T12 → T13 → T14 → Prop), (∀ (b1 : T1) (b2 : T2) (b3 : T3) (b4 : T4) (b5 : T5) (b6 : T6) (b7 : T7) (b8 : T8) (b9 : T9) (b10 : T10) (b11 : T11) (b12 : T12) (b13 : T13) (b14 : T14), I b1 b2 b3 b4 b5 b6 b7 b8 b9 b10 b11 b12 b13 b14 → μ b1 b2 b3 b4 b5 b6 b7 b8 b9 b10 b11 b12 b13 b14 < μ a1 a2 a3 a4 a5 a6 a7 a8 a9 a10 a11 a12 a13 a14 → again b1 b2 b3 b4 b5 b6 b7 b8 b9 b10 b11 b12 b13 b14) → body again a1 a2 a3 a4 a5 a6 a7 a8 a9 a10 a11 a12 a13 a14) : Lz14 body a1 a2 a3 a4 a5 a6 a7 a8 a9 a10 a11 a12 a13 a14 := by
  have key : ∀ (n : Nat) (a1 : T1) (a2 : T2) (a3 : T3) (a4 : T4) (a5 : T5) (a6 : T6) (a7 : T7) (a8 : T8) (a9 : T9) (a10 : T10) (a11 : T11) (a12 : T12) (a13 : T13) (a14 : T14), I a1 a2 a3 a4 a5 a6 a7 a8 a9 a10 a11 a12 a13 a14 → μ a1 a2 a3 a4 a5 a6 a7 a8 a9 a10 a11 a12 a13 a14 < n → lz14 body n a1 a2 a3 a4 a5 a6 a7 a8 a9 a10 a11 a12 a13 a14 := by
    intro n
    induction n with
    | zero => intro a1 a2 a3 a4 a5 a6 a7 a8 a9 a10 a11 a12 a13 a14 _ h; exact absurd h (Nat.not_lt_zero _)
    | succ n ih => intro a1 a2 a3 a4 a5 a6 a7 a8 a9 a10 a11 a12 a13 a14 hI hm; exact step a1 a2 a3 a4 a5 a6 a7 a8 a9 a10 a11 a12 a13 a14 hI (lz14 body n) (fun b1 b2 b3 b4 b5 b6 b7 b8 b9 b10 b11 b12 b13 b14 hI2 hm2 => ih b1 b2 b3 b4 b5 b6 b7 b8 b9 b10 b11 b12 b13 b14 hI2 (Nat.lt_of_lt_of_le hm2 (Nat.le_of_lt_succ hm)))
  exact ⟨_, key (μ a1 a2 a3 a4 a5 a6 a7 a8 a9 a10 a11 a12 a13 a14 + 1) a1 a2 a3 a4 a5 a6 a7 a8 a9 a10 a11 a12 a13 a14 h0 (Nat.lt_succ_self _)⟩
def lz15 {T1 T2 T3 T4 T5 T6 T7 T8 T9 T10 T11 T12 T13 T14 T15 : Type} (body : (T1 → T2 → T3 → T4 → T5 → T6 → T7 → T8 → T9 → T10 → T11 → T12 → T13 → T14 → T15 → Prop) → T1 → T2 → T3 → T4 → T5 → T6 → T7 → T8 → T9 → T10 → T11 → T12 → T13 → T14 → T15 → Prop) : Nat → T1 → T2 → T3 → T4 → T5 → T6 → T7 → T8 → T9 → T10 → T11 → T12 → T13 → T14 → T15 → Prop
  | 0 => fun _ _ _ _ _ _ _ _ _ _ _ _ _ _ _ => False
  | n + 1 => body (lz15 body n)
def Lz15 {T1 T2 T3 T4 T5 T6 T7 T8 T9 T10 T11 T12 T13 T14 T15 : Type} (body : (T1 → T2 → T3 → T4 → T5 → T6 → T7 → T8 → T9 → T10 → T11 → T12 → T13 → T14 → T15 → Prop) → T1 → T2 → T3 → T4 → T5 → T6 → T7 → T8 → T9 → T10 → T11 → T12 → T13 → T14 → T15 → Prop) (a1 : T1) (a2 : T2) (a3 : T3) (a4 : T4) (a5 : T5) (a6 : T6) (a7 : T7) (a8 : T8) (a9 : T9) (a10 : T10) (a11 : T11) (a12 : T12) (a13 : T13) (a14 : T14) (a15 : T15) : Prop := ∃ n, lz15 body n a1 a2 a3 a4 a5 a6 a7 a8 a9 a10 a11 a12 a13 a14 a15
theorem Lz15_go {T1 T2 T3 T4 T5 T6 T7 T8 T9 T10 T11 T12 T13 T14 T15 : Type} {body : (T1 → T2 → T3 → T4 → T5 → T6 → T7 → T8 → T9 → T10 → T11 → T12 → T13 → T14 → T15 → Prop) → T1 → T2 → T3 → T4 → T5 → T6 → T7 → T8 → T9 → T10 → T11 → T12 → T13 → T14 → T15 → Prop} {a1 : T1} {a2 : T2} {a3 : T3} {a4 : T4} {a5 : T5} {a6 : T6} {a7 : T7} {a8 : T8} {a9 : T9} {a10 : T10} {a11 : T11} {a12 : T12} {a13 : T13} {a14 : T14} {a15 : T15} {Gg : T1 → T2 → T3 → T4 → T5 → T6 → T7 → T8 → T9 → T10 → T11 → T12 → T13 → T14 → T15 → Prop} (h : Lz15 body a1 a2 a3 a4 a5 a6 a7 a8 a9 a10 a11 a12 a13 a14 a15) (step : ∀ (again : T1 → T2 → T3 → T4 → T5 → T6 → T7 → T8 → T9 → T10 → T11 → T12 → T13 → T14 → T15 → Prop), (∀ (a1 : T1) (a2 : T2) (a3 : T3) (a4 : T4) (a5 : T5) (a6 : T6) (a7 : T7) (a8 : T8) (a9 : T9) (a10 : T10) (a11 : T11) (a12 : T12) (a13 : T13) (a14 : T14) (a15 : T15), again a1 a2 a3 a4 a5 a6 a7 a8 a9 a10 a11 a12 a13 a14 a15 → Gg a1 a2 a3 a4 a5 a6 a7 a8 a9 a10 a11 a12 a13 a14 a15) → ∀ (a1 : T1) (a2 : T2) (a3 : T3) (a4 : T4) (a5 : T5) (a6 : T6) (a7 : T7) (a8 : T8) (a9 : T9) (a10 : T10) (a11 : T11) (a12 : T12) (a13 : T13) (a14 : T14) (a15 : T15), body again a1 a2 a3 a4 a5 a6 a7 a8 a9 a10 a11 a12 a13 a14 a15 → Gg a1 a2 a3 a4 a5 a6 a7 a8 a9 a10 a11 a12 a13 a14 a15) : Gg a1 a2 a3 a4 a5 a6 a7 a8 a9 a10 a11 a12 a13 a14 a15 := by
  obtain ⟨n, h⟩ := h
  induction n generalizing a1 a2 a3 a4 a5 a6 a7 a8 a9 a10 a11 a12 a13 a14 a15 with
  | zero => exact h.elim
  | succ n ih => exact step (lz15 body n) (fun a1 a2 a3 a4 a5 a6 a7 a8 a9 a10 a11 a12 a13 a14 a15 h => ih h) a1 a2 a3 a4 a5 a6 a7 a8 a9 a10 a11 a12 a13 a14 a15 h
theorem Lz15_by {T1 T2 T3 T4 T5 T6 T7 T8 T9 T10 T11 T12 T13 T14 T15 : Type} {body : (T1 → T2 → T3 → T4 → T5 → T6 → T7 → T8 → T9 → T10 → T11 → T12 → T13 → T14 → T15 → Prop) → T1 → T2 → T3 → T4 → T5 → T6 → T7 → T8 → T9 → T10 → T11 → T12 → T13 → T14 → T15 → Prop} (I : T1 → T2 → T3 → T4 → T5 → T6 → T7 → T8 → T9 → T10 → T11 → T12 → T13 → T14 → T15 → Prop) (μ : T1 → T2 → T3 → T4 → T5 → T6 → T7 → T8 → T9 → T10 → T11 → T12 → T13 → T14 → T15 → Nat) (a1 : T1) (a2 : T2) (a3 : T3) (a4 : T4) (a5 : T5) (a6 : T6) (a7 : T7) (a8 : T8) (a9 : T9) (a10 : T10) (a11 : T11) (a12 : T12) (a13 : T13) (a14 : T14) (a15 : T15) (h0 : I a1 a2 a3 a4 a5 a6 a7 a8 a9 a10 a11 a12 a13 a14 a15) (step : ∀ (a1 : T1) (a2 : T2) (a3 : T3) (a4 : T4) (a5 : T5) (a6 : T6) (a7 : T7) (a8 : T8) (a9 : T9) (a10 : T10) (a11 : T11) (a12 : T12) (a13 : T13) (a14 : T14) (a15 : T15), I a1 a2 a3 a4 a5 a6 a7 a8 a9 a10 a11 a12 a13 a14 a15 → ∀ (again : T1 → T2 → T3 → T4 → T5 → T6 → T7 → T8 → T9 → T10 → T11 → T12 → T13 → T14 → T15 → Prop), (∀ (b1 : T1) (b2 : T2) (b3 : T3) (b4 : T4) (b5 : T5) (b6 : T6) (b7 : T7) (b8 : T8) (b9 : T9) (b10 : T10) (b11 : T11) (b12 : T12) (b13 : T13) (b14 : T14) (b15 : T15), I b1 b2 b3 b4 b5 b6 b7 b8 b9 b10 b11 b12 b13 b14 b15 → μ b1 b2 b3 b4 b5 b6 b7 b8 b9 b10 b11 b12 b13 b14 b15 < μ a1 a2 a3 a4 a5 a6 a7 a8 a9 a10 a11 a12 a13 a14 a15 → again b1 b2 b3 b4 b5 b6 b7 b8 b9 b10 b11 b12 b13 b14 b15) → body again a1 a2 a3 a4 a5 a6 a7 a8 a9 a10 a11 a12 a13 a14 a15) : Lz15 body a1 a2 a3 a4 a5 a6 a7 a8 a9 a10 a11 a12 a13 a14 a15 := by
  have key : ∀ (n : Nat) (a1 : T1) (a2 : T2) (a3 : T3) (a4 : T4) (a5 : T5) (a6 : T6) (a7 : T7) (a8 : T8) (a9 : T9) (a10 : T10) (a11 : T11) (a12 : T12) (a13 : T13) (a14 : T14) (a15 : T15), I a1 a2 a3 a4 a5 a6 a7 a8 a9 a10 a11 a12 a13 a14 a15 → μ a1 a2 a3 a4 a5 a6 a7 a8 a9 a10 a11 a12 a13 a14 a15 < n → lz15 body n a1 a2 a3 a4 a5 a6 a7 a8 a9 a10 a11 a12 a13 a14 a15 := by
    intro n
    induction n with
    | zero => intro a1 a2 a3 a4 a5 a6 a7 a8 a9 a10 a11 a12 a13 a14 a15 _ h; exact absurd h (Nat.not_lt_zero _)
    | succ n ih => intro a1 a2 a3 a4 a5 a6 a7 a8 a9 a10 a11 a12 a13 a14 a15 hI hm; exact step a1 a2 a3 a4 a5 a6 a7 a8 a9 a10 a11 a12 a13 a14 a15 hI (lz15 body n) (fun b1 b2 b3 b4 b5 b6 b7 b8 b9 b10 b11 b12 b13 b14 b15 hI2 hm2 => ih b1 b2 b3 b4 b5 b6 b7 b8 b9 b10 b11 b12 b13 b14 b15 hI2 (Nat.lt_of_lt_of_le hm2 (Nat.le_of_lt_succ hm)))
  exact ⟨_, key (μ a1 a2 a3 a4 a5 a6 a7 a8 a9 a10 a11 a12 a13 a14 a15 + 1) a1 a2 a3 a4 a5 a6 a7 a8 a9 a10 a11 a12 a13 a14 a15 h0 (Nat.lt_succ_self _)⟩
def lz16 {T1 T2 T3 T4 T5 T6 T7 T8 T9 T10 T11 T12 T13 T14 T15 T16 : Type} (body : (T1 → T2 → T3 → T4 → T5 → T6 → T7 → T8 → T9 → T10 → T11 → T12 → T13 → T14 → T15 → T16 → Prop) → T1 → T2 → T3 → T4 → T5 → T6 → T7 → T8 → T9 → T10 → T11 → T12 → T13 → T14 → T15 → T16 → Prop) : Nat → T1 → T2 → T3 → T4 → T5 → T6 → T7 → T8 → T9 → T10 → T11 → T12 → T13 → T14 → T15 → T16 → Prop
  | 0 => fun _ _ _ _ _ _ _ _ _ _ _ _ _ _ _ _ => False
  | n + 1 => body (lz16 body n)
def Lz16 {T1 T2 T3 T4 T5 T6 T7 T8 T9 T10 T11 T12 T13 T14 T15 T16 : Type} (body : (T1 → T2 → T3 → T4 → T5 → T6 → T7 → T8 → T9 → T10 → T11 → T12 → T13 → T14 → T15 → T16 → Prop) → T1 → T2 → T3 → T4 → T5 → T6 → T7 → T8 → T9 → T10 → T11 → T12 → T13 → T14 → T15 → T16 → Prop) (a1 : T1) (a2 : T2) (a3 : T3) (a4 : T4) (a5 : T5) (a6 : T6) (a7 : T7) (a8 : T8) (a9 : T9) (a10 : T10) (a11 : T11) (a12 : T12) (a13 : T13) (a14 : T14) (a15 : T15) (a16 : T16) : Prop := ∃ n, lz16 body n a1 a2 a3 a4 a5 a6 a7 a8 a9 a10 a11 a12 a13 a14 a15 a16
theorem Lz16_go {T1 T2 T3 T4 T5 T6 T7 T8 T9 T10 T11 T12 T13 T14 T15 T16 : Type} {body : (T1 → T2 → T3 → T4 → T5 → T6 → T7 → T8 → T9 → T10 → T11 → T12 → T13 → T14 → T15 → T16 → Prop) → T1 → T2 → T3 → T4 → T5 → T6 → T7 → T8 → T9 → T10 → T11 → T12 → T13 → T14 → T15 → T16 → Prop} {a1 : T1} {a2 : T2} {a3 : T3} {a4 : T4} {a5 : T5} {a6 : T6} {a7 : T7} {a8 : T8} {a9 : T9} {a10 : T10} {a11 : T11} {a12 : T12} {a13 : T13} {a14 : T14} {a15 : T15} {a16 : T16} {Gg : T1 → T2 → T3 → T4 → T5 → T6 → T7 → T8 → T9 → T10 → T11 → T12 → T13 → T14 → T15 → T16 → Prop} (h : Lz16 body a1 a2 a3 a4 a5 a6 a7 a8 a9 a10 a11 a12 a13 a14 a15 a16) (step : ∀ (again : T1 → T2 → T3 → T4 → T5 → T6 → T7 → T8 → T9 → T10 → T11 → T12 → T13 → T14 → T15 → T16 → Prop), (∀ (a1 : T1) (a2 : T2) (a3 : T3) (a4 : T4) (a5 : T5) (a6 : T6) (a7 : T7) (a8 : T8) (a9 : T9) (a10 : T10) (a11 : T11) (a12 : T12) (a13 : T13) (a14 : T14) (a15 : T15) (a16 : T16), again a1 a2 a3 a4 a5 a6 a7 a8 a9 a10 a11 a12 a13 a14 a15 a16 → Gg a1 a2 a3 a4 a5 a6 a7 a8 a9 a10 a11 a12 a13 a14 a15 a16) → ∀ (a1 : T1) (a2 : T2) (a3 : T3) (a4 : T4) (a5 : T5) (a6 : T6) (a7 : T7) (a8 : T8) (a9 : T9) (a10 : T10) (a11 : T11) (a12 : T12) (a13 : T13) (a14 : T14) (a15 : T15) (a16 : T16), body again a1 a2 a3 a4 a5 a6 a7 a8 a9 a10 a11 a12 a13 a14 a15 a16 → Gg a1 a2 a3 a4 a5 a6 a7 a8 a9 a10 a11 a12 a13 a14 a15 a16) : Gg a1 a2 a3 a4 a5 a6 a7 a8 a9 a10 a11 a12 a13 a14 a15 a16 := by
  obtain ⟨n, h⟩ := h
  induction n generalizing a1 a2 a3 a4 a5 a6 a7 a8 a9 a10 a11 a12 a13 a14 a15 a16 with
  | zero => exact h.elim
  | succ n ih => exact step (lz16 body n) (fun a1 a2 a3 a4 a5 a6 a7 a8 a9 a10 a11 a12 a13 a14 a15 a16 h => ih h) a1 a2 a3 a4 a5 a6 a7 a8 a9 a10 a11 a12 a13 a14 a15 a16 h
theorem Lz16_by {T1 T2 T3 T4 T5 T6 T7 T8 T9 T10 T11 T12 T13 T14 T15 T16 : Type} {body : (T1 → T2 → T3 → T4 → T5 → T6 → T7 → T8 → T9 → T10 → T11 → T12 → T13 → T14 → T15 → T16 → Prop) → T1 → T2 → T3 → T4 → T5 → T6 → T7 → T8 → T9 → T10 → T11 → T12 → T13 → T14 → T15 → T16 → Prop} (I : T1 → T2 → T3 → T4 → T5 → T6 → T7 → T8 → T9 → T10 → T11 → T12 → T13 → T14 → T15 → T16 → Prop) (μ : T1 → T2 → T3 → T4 → T5 → T6 → T7 → T8 → T9 → T10 → T11 → T12 → T13 → T14 → T15 → T16 → Nat) (a1 : T1) (a2 : T2) (a3 : T3) (a4 : T4) (a5 : T5) (a6 : T6) (a7 : T7) (a8 : T8) (a9 : T9) (a10 : T10) (a11 : T11) (a12 : T12) (a13 : T13) (a14 : T14) (a15 : T15) (a16 : T16) (h0 : I a1 a2 a3 a4 a5 a6 a7 a8 a9 a10 a11 a12 a13 a14 a15 a16) (step : ∀ (a1 : T1) (a2 : T2) (a3 : T3) (a4 : T4) (a5 : T5) (a6 : T6) (a7 : T7) (a8 : T8) (a9 : T9) (a10 : T10) (a11 : T11) (a12 : T12) (a13 : T13) (a14 : T14) (a15 : T15) (a16 : T16), I a1 a2 a3 a4 a5 a6 a7 a8 a9 a10 a11 a12 a13 a14 a15 a16 → ∀ (again : T1 → T2 → T3 → T4 → T5 → T6 → T7 → T8 → T9 → T10 → T11 → T12 → T13 → T14 → T15 → T16 → Prop), (∀ (b1 : T1) (b2 : T2) (b3 : T3) (b4 : T4) (b5 : T5) (b6 : T6) (b7 : T7) (b8 : T8) (b9 : T9) (b10 : T10) (b11 : T11) (b12 : T12) (b13 : T13) (b14 : T14) (b15 : T15) (b16 : T16), I b1 b2 b3 b4 b5 b6 b7 b8 b9 b10 b11 b12 b13 b14 b15 b16 → μ b1 b2 b3 b4 b5 b6 b7 b8 b9 b10 b11 b12 b13 b14 b15 b16 < μ a1 a2 a3 a4 a5 a6 a7 a8 a9 a10 a11 a12 a13 a14 a15 a16 → again b1 b2 b3 b4 b5 b6 b7 b8 b9 b10 b11 b12 b13 b14 b15 b16) → body again a1 a2 a3 a4 a5 a6 a7 a8 a9 a10 a11 a12 a13 a14 a15 a16) : Lz16 body a1 a2 a3 a4 a5 a6 a7 a8 a9 a10 a11 a12 a13 a14 a15 a16 := by
  have key : ∀ (n : Nat) (a1 : T1) (a2 : T2) (a3 : T3) (a4 : T4) (a5 : T5) (a6 : T6) (a7 : T7) (a8 : T8) (a9 : T9) (a10 : T10) (a11 : T11) (a12 : T12) (a13 : T13) (a14 : T14) (a15 : T15) (a16 : T16), I a1 a2 a3 a4 a5 a6 a7 a8 a9 a10 a11 a12 a13 a14 a15 a16 → μ a1 a2 a3 a4 a5 a6 a7 a8 a9 a10 a11 a12 a13 a14 a15 a16 < n → lz16 body n a1 a2 a3 a4 a5 a6 a7 a8 a9 a10 a11 a12 a13 a14 a15 a16 := by
    intro n
    induction n with
    | zero => intro a1 a2 a3 a4 a5 a6 a7 a8 a9 a10 a11 a12 a13 a14 a15 a16 _ h; exact absurd h (Nat.not_lt_zero _)
    | succ n ih => intro a1 a2 a3 a4 a5 a6 a7 a8 a9 a10 a11 a12 a13 a14 a15 a16 hI hm; exact step a1 a2 a3 a4 a5 a6 a7 a8 a9 a10 a11 a12 a13 a14 a15 a16 hI (lz16 body n) (fun b1 b2 b3 b4 b5 b6 b7 b8 b9 b10 b11 b12 b13 b14 b15 b16 hI2 hm2 => ih b1 b2 b3 b4 b5 b6 b7 b8 b9 b10 b11 b12 b13 b14 b15 b16 hI2 (Nat.lt_of_lt_of_le hm2 (Nat.le_of_lt_succ hm)))
  exact ⟨_, key (μ a1 a2 a3 a4 a5 a6 a7 a8 a9 a10 a11 a12 a13 a14 a15 a16 + 1) a1 a2 a3 a4 a5 a6 a7 a8 a9 a10 a11 a12 a13 a14 a15 a16 h0 (Nat.lt_succ_self _)⟩
def lz17 {T1 T2 T3 T4 T5 T6 T7 T8 T9 T10 T11 T12 T13 T14 T15 T16 T17 : Type} (body : (T1 → T2 → T3 → T4 → T5 → T6 → T7 → T8 → T9 → T10 → T11 → T12 → T13 → T14 → T15 → T16 → T17 → Prop) → T1 → T2 → T3 → T4 → T5 → T6 → T7 → T8 → T9 → T10 → T11 → T12 → T13 → T14 → T15 → T16 → T17 → Prop) : Nat → T1 → T2 → T3 → T4 → T5 → T6 → T7 → T8 → T9 → T10 → T11 → T12 → T13 → T14 → T15 → T16 → T17 → Prop
  | 0 => fun _ _ _ _ _ _ _ _ _ _ _ _ _ _ _ _ _ => False
  | n + 1 => body (lz17 body n)
def Lz17 {T1 T2 T3 T4 T5 T6 T7 T8 T9 T10 T11 T12 T13 T14 T15 T16 T17 : Type} (body : (T1 → T2 → T3 → T4 → T5 → T6 → T7 → T8 → T9 → T10 → T11 → T12 → T13 → T14 → T15 → T16 → T17 → Prop) → T1 → T2 → T3 → T4 → T5 → T6 → T7 → T8 → T9 → T10 → T11 → T12 → T13 → T14 → T15 → T16 → T17 → Prop) (a1 : T1) (a2 : T2) (a3 : T3) (a4 : T4) (a5 : T5) (a6 : T6) (a7 : T7) (a8 : T8) (a9 : T9) (a10 : T10) (a11 : T11) (a12 : T12) (a13 : T13) (a14 : T14) (a15 : T15) (a16 : T16) (a17 : T17) : Prop := ∃ n, lz17 body n a1 a2 a3 a4 a5 a6 a7 a8 a9 a10 a11 a12 a13 a14 a15 a16 a17
theorem Lz17_go {T1 T2 T3 T4 T5 T6 T7 T8 T9 T10 T11 T12 T13 T14 T15 T16 T17 : Type} {body : (T1 → T2 → T3 → T4 → T5 → T6 → T7 → T8 → T9 → T10 → T11 → T12 → T13 → T14 → T15 → T16 → T17 → Prop) → T1 → T2 → T3 → T4 → T5 → T6 → T7 → T8 → T9 → T10 → T11 → T12 → T13 → T14 → T15 → T16 → T17 → Prop} {a1 : T1} {a2 : T2} {a3 : T3} {a4 : T4} {a5 : T5} {a6 : T6} {a7 : T7} {a8 : T8} {a9 : T9} {a10 : T10} {a11 : T11} {a12 : T12} {a13 : T13} {a14 : T14} {a15 : T15} {a16 : T16} {a17 : T17} {Gg : T1 → T2 → T3 → T4 → T5 → T6 → T7 → T8 → T9 → T10 → T11 → T12 → T13 → T14 → T15 → T16 → T17 → Prop} (h : Lz17 body a1 a2 a3 a4 a5 a6 a7 a8 a9 a10 a11 a12 a13 a14 a15 a16 a17) (step : ∀ (again : T1 → T2 → T3 → T4 → T5 → T6 → T7 → T8 → T9 → T10 → T11 → T12 → T13 → T14 → T15 → T16 → T17 → Prop), (∀ (a1 : T1) (a2 : T2) (a3 : T3) (a4 : T4) (a5 : T5) (a6 : T6) (a7 : T7) (a8 : T8) (a9 : T9) (a10 : T10) (a11 : T11) (a12 : T12) (a13 : T13) (a14 : T14) (a15 : T15) (a16 : T16) (a17 : T17), again a1 a2 a3 a4 a5 a6 a7 a8 a9 a10 a11 a12 a13 a14 a15 a16 a17 → Gg a1 a2 a3 a4 a5 a6 a7 a8 a9 a10 a11 a12 a13 a14 a15 a16 a17) → ∀ (a1 : T1) (a2 : T2) (a3 : T3) (a4 : T4) (a5 : T5) (a6 : T6) (a7 : T7) (a8 : T8) (a9 : T9) (a10 : T10) (a11 : T11) (a12 : T12) (a13 : T13) (a14 : T14) (a15 : T15) (a16 : T16) (a17 : T17), body again a1 a2 a3 a4 a5 a6 a7 a8 a9 a10 a11 a12 a13 a14 a15 a16 a17 → Gg a1 a2 a3 a4 a5 a6 a7 a8 a9 a10 a11 a12 a13 a14 a15 a16 a17) : Gg a1 a2 a3 a4 a5 a6 a7 a8 a9 a10 a11 a12 a13 a14 a15 a16 a17 := by
  obtain ⟨n, h⟩ := h
  induction n generalizing a1 a2 a3 a4 a5 a6 a7 a8 a9 a10 a11 a12 a13 a14 a15 a16 a17 with
  | zero => exact h.elim
  | succ n ih => exact step (lz17 body n) (fun a1 a2 a3 a4 a5 a6 a7 a8 a9 a10 a11 a12 a13 a14 a15 a16 a17 h => ih h) a1 a2 a3 a4 a5 a6 a7 a8 a9 a10 a11 a12 a13 a14 a15 a16 a17 h
theorem Lz17_by {T1 T2 T3 T4 T5 T6 T7 T8 T9 T10 T11 T12 T13 T14 T15 T16 T17 : Type} {body : (T1 → T2 → T3 → T4 → T5 → T6 → T7 → T8 → T9 → T10 → T11 → T12 → T13 → T14 → T15 → T16 → T17 → Prop) → T1 → T2 → T3 → T4 → T5 → T6 → T7 → T8 → T9 → T10 → T11 → T12 → T13 → T14 → T15 → T16 → T17 → Prop} (I : T1 → T2 → T3 → T4 → T5 → T6 → T7 → T8 → T9 → T10 → T11 → T12 → T13 → T14 → T15 → T16 → T17 → Prop) (μ : T1 → T2 → T3 → T4 → T5 → T6 → T7 → T8 → T9 → T10 → T11 → T12 → T13 → T14 → T15 → T16 → T17 → Nat) (a1 : T1) (a2 : T2) (a3 : T3) (a4 : T4) (a5 : T5) (a6 : T6) (a7 : T7) (a8 : T8) (a9 : T9) (a10 : T10) (a11 : T11) (a12 : T12) (a13 : T13) (a14 : T14) (a15 : T15) (a16 : T16) (a17 : T17) (h0 : I a1 a2 a3 a4 a5 a6 a7 a8 a9 a10 a11 a12 a13 a14 a15 a16 a17) (step : ∀ (a1 : T1) (a2 : T2) (a3 : T3) (a4 : T4) (a5 : T5) (a6 : T6) (a7 : T7) (a8 : T8) (a9 : T9) (a10 : T10) (a11 : T11) (a12 : T12) (a13 : T13) (a14 : T14) (a15 : T15) (a16 : T16) (a17 : T17), I a1 a2 a3 a4 a5 a6 a7 a8 a9 a10 a11 a12 a13 a14 a15 a16 a17 → ∀ (again : T1 → T2 → T3 → T4 → T5 → T6 → T7 → T8 → T9 → T10 → T11 → T12 → T13 → T14 → T15 → T16 → T17 → Prop), (∀ (b1 : T1) (b2 : T2) (b3 : T3) (b4 : T4) (b5 : T5) (b6 : T6) (b7 : T7) (b8 : T8) (b9 : T9) (b10 : T10) (b11 : T11) (b12 : T12) (b13 : T13) (b14 : T14) (b15 : T15) (b16 : T16) (b17 : T17), I b1 b2 b3 b4 b5 b6 b7 b8 b9 b10 b11 b12 b13 b14 b15 b16 b17 → μ b1 b2 b3 b4 b5 b6 b7 b8 b9 b10 b11 b12 b13 b14 b15 b16 b17 < μ a1 a2 a3 a4 a5 a6 a7 a8 a9 a10 a11 a12 a13 a14 a15 a16 a17 → again b1 b2 b3 b4 b5 b6 b7 b8 b9 b10 b11 b12 b13 b14 b15 b16 b17) → body again a1 a2 a3 a4 a5 a6 a7 a8 a9 a10 a11 a12 a13 a14 a15 a16 a17) : Lz17 body a1 a2 a3 a4 a5 a6 a7 a8 a9 a10 a11 a12 a13 a14 a15 a16 a17 := by
  have key : ∀ (n : Nat) (a1 : T1) (a2 : T2) (a3 : T3) (a4 : T4) (a5 : T5) (a6 : T6) (a7 : T7) (a8 : T8) (a9 : T9) (a10 : T10) (a11 : T11) (a12 : T12) (a13 : T13) (a14 : T14) (a15 : T15) (a16 : T16) (a17 : T17), I a1 a2 a3 a4 a5 a6 a7 a8 a9 a10 a11 a12 a13 a14 a15 a16 a17 → μ a1 a2 a3 a4 a5 a6 a7 a8 a9 a10 a11 a12 a13 a14 a15 a16 a17 < n → lz17 body n a1 a2 a3 a4 a5 a6 a7 a8 a9 a10 a11 a12 a13 a14 a15 a16 a17 := by
    intro n
    induction n with
    | zero => intro a1 a2 a3 a4 a5 a6 a7 a8 a9 a10 a11 a12 a13 a14 a15 a16 a17 _ h; exact absurd h (Nat.not_lt_zero _)
    | succ n ih => intro a1 a2 a3 a4 a5 a6 a7 a8 a9 a10 a11 a12 a13 a14 a15 a16 a17 hI hm; exact step a1 a2 a3 a4 a5 a6 a7 a8 a9 a10 a11 a12 a13 a14 a15 a16 a17 hI (lz17 body n) (fun b1 b2 b3 b4 b5 b6 b7 b8 b9 b10 b11 b12 b13 b14 b15 b16 b17 hI2 hm2 => ih b1 b2 b3 b4 b5 b6 b7 b8 b9 b10 b11 b12 b13 b14 b15 b16 b17 hI2 (Nat.lt_of_lt_of_le hm2 (Nat.le_of_lt_succ hm)))
  exact ⟨_, key (μ a1 a2 a3 a4 a5 a6 a7 a8 a9 a10 a11 a12 a13 a14 a15 a16 a17 + 1) a1 a2 a3 a4 a5 a6 a7 a8 a9 a10 a11 a12 a13 a14 a15 a16 a17 h0 (Nat.lt_succ_self _)⟩
def lz18 {T1 T2 T3 T4 T5 T6 T7 T8 T9 T10 T11 T12 T13 T14 T15 T16 T17 T18 : Type} (body : (T1 → T2 → T3 → T4 → T5 → T6 → T7 → T8 → T9 → T10 → T11 → T12 → T13 → T14 → T15 → T16 → T17 → T18 → Prop) → T1 → T2 → T3 → T4 → T5 → T6 → T7 → T8 → T9 → T10 → T11 → T12 → T13 → T14 → T15 → T16 → T17 → T18 → Prop) : Nat → T1 → T2 → T3 → T4 → T5 → T6 → T7 → T8 → T9 → T10 → T11 → T12 → T13 → T14 → T15 → T16 → T17 → T18 → Prop
  | 0 => fun _ _ _ _ _ _ _ _ _ _ _ _ _ _ _ _ _ _ => False
  | n + 1 => body (lz18 body n)
def Lz18 {T1 T2 T3 T4 T5 T6 T7 T8 T9 T10 T11 T12 T13 T14 T15 T16 T17 T18 : Type} (body : (T1 → T2 → T3 → T4 → T5 → T6 → T7 → T8 → T9 → T10 → T11 → T12 → T13 → T14 → T15 → T16 → T17 → T18 → Prop) → T1 → T2 → T3 → T4 → T5 → T6 → T7 → T8 → T9 → T10 → T11 → T12 → T13 → T14 → T15 → T16 → T17 → T18 → Prop) (a1 : T1) (a2 : T2) (a3 : T3) (a4 : T4) (a5 : T5) (a6 : T6) (a7 : T7) (a8 : T8) (a9 : T9) (a10 : T10) (a11 : T11) (a12 : T12) (a13 : T13) (a14 : T14) (a15 : T15) (a16 : T16) (a17 : T17) (a18 : T18) : Prop := ∃ n, lz18 body n a1 a2 a3 a4 a5 a6 a7 a8 a9 a10 a11 a12 a13 a14 a15 a16 a17 a18
theorem Lz18_go {T1 T2 T3 T4 T5 T6 T7 T8 T9 T10 T11 T12 T13 T14 T15 T16 T17 T18 : Type} {body : (T1 → T2 → T3 → T4 → T5 → T6 → T7 → T8 → T9 → T10 → T11 → T12 → T13 → T14 → T15 → T16 → T17 → T18 → Prop) → T1 → T2 → T3 → T4 → T5 → T6 → T7 → T8 → T9 → T10 → T11 → T12 → T13 → T14 → T15 → T16 → T17 → T18 → Prop} {a1 : T1} {a2 : T2} {a3 : T3} {a4 : T4} {a5 : T5} {a6 : T6} {a7 : T7} {a8 : T8} {a9 : T9} {a10 : T10} {a11 : T11} {a12 : T12} {a13 : T13} {a14 : T14} {a15 : T15} {a16 : T16} {a17 : T17} {a18 : T18} {Gg : T1 → T2 → T3 → T4 → T5 → T6 → T7 → T8 → T9 → T10 → T11 → T12 → T13 → T14 → T15 → T16 → T17 → T18 → Prop} (h : Lz18 body a1 a2 a3 a4 a5 a6 a7 a8 a9 a10 a11 a12 a13 a14 a15 a16 a17 a18) (step : ∀ (again : T1 → T2 → T3 → T4 → T5 → T6 → T7 → T8 → T9 → T10 → T11 → T12 → T13 → T14 → T15 → T16 → T17 → T18 → Prop), (∀ (a1 : T1) (a2 : T2) (a3 : T3) (a4 : T4) (a5 : T5) (a6 : T6) (a7 : T7) (a8 : T8) (a9 : T9) (a10 : T10) (a11 : T11) (a12 : T12) (a13 : T13) (a14 : T14) (a15 : T15) (a16 : T16) (a17 : T17) (a18 : T18), again a1 a2 a3 a4 a5 a6 a7 a8 a9 a10 a11 a12 a13 a14 a15 a16 a17 a18 → Gg a1 a2 a3 a4 a5 a6 a7 a8 a9 a10 a11 a12 a13 a14 a15 a16 a17 a18) → ∀ (a1 : T1) (a2 : T2) (a3 : T3) (a4 : T4) (a5 : T5) (a6 : T6) (a7 : T7) (a8 : T8) (a9 : T9) (a10 : T10) (a11 : T11) (a12 : T12) (a13 : T13) (a14 : T14) (a15 : T15) (a16 : T16) (a17 : T17) (a18 : T18), body again a1 a2 a3 a4 a5 a6 a7 a8 a9 a10 a11 a12 a13 a14 a15 a16 a17 a18 → Gg a1 a2 a3 a4 a5 a6 a7 a8 a9 a10 a11 a12 a13 a14 a15 a16 a17 a18) : Gg a1 a2 a3 a4 a5 a6 a7 a8 a9 a10 a11 a12 a13 a14 a15 a16 a17 a18 := by
  obtain ⟨n, h⟩ := h
  induction n generalizing a1 a2 a3 a4 a5 a6 a7 a8 a9 a10 a11 a12 a13 a14 a15 a16 a17 a18 with
  | zero => exact h.elim
  | succ n ih => exact step (lz18 body n) (fun a1 a2 a3 a4 a5 a6 a7 a8 a9 a10 a11 a12 a13 a14 a15 a16 a17 a18 h => ih h) a1 a2 a3 a4 a5 a6 a7 a8 a9 a10 a11 a12 a13 a14 a15 a16 a17 a18 h
theorem Lz18_by {T1 T2 T3 T4 T5 T6 T7 T8 T9 T10 T11 T12 T13 T14 T15 T16 T17 T18 : Type} {body : (T1 → T2 → T3 → T4 → T5 → T6 → T7 → T8 → T9 → T10 → T11 → T12 → T13 → T14 → T15 → T16 → T17 → T18 → Prop) → T1 → T2 → T3 → T4 → T5 → T6 → T7 → T8 → T9 → T10 → T11 → T12 → T13 → T14 → T15 → T16 → T17 → T18 → Prop} (I : T1 → T2 → T3 → T4 → T5 → T6 → T7 → T8 → T9 → T10 → T11 → T12 → T13 → T14 → T15 → T16 → T17 → T18 → Prop) (μ : T1 → T2 → T3 → T4 → T5 → T6 → T7 → T8 → T9 → T10 → T11 → T12 → T13 → T14 → T15 → T16 → T17 → T18 → Nat) (a1 : T1) (a2 : T2) (a3 : T3) (a4 : T4) (a5 : T5) (a6 : T6) (a7 : T7) (a8 : T8) (a9 : T9) (a10 : T10) (a11 : T11) (a12 : T12) (a13 : T13) (a14 : T14) (a15 : T15) (a16 : T16) (a17 : T17) (a18 : T18) (h0 : I a1 a2 a3 a4 a5 a6 a7 a8 a9 a10 a11 a12 a13 a14 a15 a16 a17 a18) (step : ∀ (a1 : T1) (a2 : T2) (a3 : T3) (a4 : T4) (a5 : T5) (a6 : T6) (a7 : T7) (a8 : T8) (a9 : T9) (a10 : T10) (a11 : T11) (a12 : T12) (a13 : T13) (a14 : T14) (a15 : T15) (a16 : T16) (a17 : T17) (a18 : T18), I a1 a2 a3 a4 a5 a6 a7 a8 a9 a10 a11 a12 a13 a14 a15 a16 a17 a18 → ∀ (again : T1 → T2 → T3 → T4 → T5 → T6 → T7 → T8 → T9 → T10 → T11 → T12 → T13 → T14 → T15 → T16 → T17 → T18 → Prop), (∀ (b1 : T1) (b2 : T2) (b3 : T3) (b4 : T4) (b5 : T5) (b6 : T6) (b7 : T7) (b8 : T8) (b9 : T9) (b10 : T10) (b11 : T11) (b12 : T12) (b13 : T13) (b14 : T14) (b15 : T15) (b16 : T16) (b17 : T17) (b18 : T18), I b1 b2 b3 b4 b5 b6 b7 b8 b9 b10 b11 b12 b13 b14 b15 b16 b17 b18 → μ b1 b2 b3 b4 b5 b6 b7 b8 b9 b10 b11 b12 b13 b14 b15 b16 b17 b18 < μ a1 a2 a3 a4 a5 a6 a7 a8 a9 a10 a11 a12 a13 a14 a15 a16 a17 a18 → again b1 b2 b3 b4 b5 b6 b7 b8 b9 b10 b11 b12 b13 b14 b15 b16 b17 b18) → body again a1 a2 a3 a4 a5 a6 a7 a8 a9 a10 a11 a12 a13 a14 a15 a16 a17 a18) : Lz18 body a1 a2 a3 a4 a5 a6 a7 a8 a9 a10 a11 a12 a13 a14 a15 a16 a17 a18 := by
  have key : ∀ (n : Nat) (a1 : T1) (a2 : T2) (a3 : T3) (a4 : T4) (a5 : T5) (a6 : T6) (a7 : T7) (a8 : T8) (a9 : T9) (a10 : T10) (a11 : T11) (a12 : T12) (a13 : T13) (a14 : T14) (a15 : T15) (a16 : T16) (a17 : T17) (a18 : T18), I a1 a2 a3 a4 a5 a6 a7 a8 a9 a10 a11 a12 a13 a14 a15 a16 a17 a18 → μ a1 a2 a3 a4 a5 a6 a7 a8 a9 a10 a11 a12 a13 a14 a15 a16 a17 a18 < n → lz18 body n a1 a2 a3 a4 a5 a6 a7 a8 a9 a10 a11 a12 a13 a14 a15 a16 a17 a18 := by
    intro n
    induction n with
    | zero => intro a1 a2 a3 a4 a5 a6 a7 a8 a9 a10 a11 a12 a13 a14 a15 a16 a17 a18 _ h; exact absurd h (Nat.not_lt_zero _)
    | succ n ih => intro a1 a2 a3 a4 a5 a6 a7 a8 a9 a10 a11 a12 a13 a14 a15 a16 a17 a18 hI hm; exact step a1 a2 a3 a4 a5 a6 a7 a8 a9 a10 a11 a12 a13 a14 a15 a16 a17 a18 hI (lz18 body n) (fun b1 b2 b3 b4 b5 b6 b7 b8 b9 b10 b11 b12 b13 b14 b15 b16 b17 b18 hI2 hm2 => ih b1 b2 b3 b4 b5 b6 b7 b8 b9 b10 b11 b12 b13 b14 b15 b16 b17 b18 hI2 (Nat.lt_of_lt_of_le hm2 (Nat.le_of_lt_succ hm)))
  exact ⟨_, key (μ a1 a2 a3 a4 a5 a6 a7 a8 a9 a10 a11 a12 a13 a14 a15 a16 a17 a18 + 1) a1 a2 a3 a4 a5 a6 a7 a8 a9 a10 a11 a12 a13 a14 a15 a16 a17 a18 h0 (Nat.lt_succ_self _)⟩
def lz19 {T1 T2 T3 T4 T5 T6 T7 T8 T9 T10 T11 T12 T13 T14 T15 T16 T17 T18 T19 : Type} (body : (T1 → T2 → T3 → T4 → T5 → T6 → T7 → T8 → T9 → T10 → T11 → T12 → T13 → T14 → T15 → T16 → T17 → T18 → T19 → Prop) → T1 → T2 → T3 → T4 → T5 → T6 → T7 → T8 → T9 → T10 → T11 → T12 → T13 → T14 → T15 → T16 → T17 → T18 → T19 → Prop) : Nat → T1 → T2 → T3 → T4 → T5 → T6 → T7 → T8 → T9 → T10 → T11 → T12 → T13 → T14 → T15 → T16 → T17 → T18 → T19 → Prop
  | 0 => fun _ _ _ _ _ _ _ _ _ _ _ _ _ _ _ _ _ _ _ => False
  | n + 1 => body (lz19 body n)
def Lz19 {T1 T2 T3 T4 T5 T6 T7 T8 T9 T10 T11 T12 T13 T14 T15 T16 T17 T18 T19 : Type} (body : (T1 → T2 → T3 → T4 → T5 → T6 → T7 → T8 → T9 → T10 → T11 → T12 → T13 → T14 → T15 → T16 → T17 → T18 → T19 → Prop) → T1 → T2 → T3 → T4 → T5 → T6 → T7 → T8 → T9 → T10 → T11 → T12 → T13 → T14 → T15 → T16 → T17 → T18 → T19 → Prop) (a1 : T1) (a2 : T2) (a3 : T3) (a4 : T4) (a5 : T5) (a6 : T6) (a7 : T7) (a8 : T8) (a9 : T9) (a10 : T10) (a11 : T11) (a12 : T12) (a13 : T13) (a14 : T14) (a15 : T15) (a16 : T16) (a17 : T17) (a18 : T18) (a19 : T19) : Prop := ∃ n, lz19 body n a1 a2 a3 a4 a5 a6 a7 a8 a9 a10 a11 a12 a13 a14 a15 a16 a17 a18 a19
theorem Lz19_go {T1 T2 T3 T4 T5 T6 T7 T8 T9 T10 T11 T12 T13 T14 T15 T16 T17 T18 T19 : Type} {body : (T1 → T2 → T3 → T4 → T5 → T6 → T7 → T8 → T9 → T10 → T11 → T12 → T13 → T14 → T15 → T16 → T17 → T18 → T19 → Prop) → T1 → T2 → T3 → T4 → T5 → T6 → T7 → T8 → T9 → T10 → T11 → T12 → T13 → T14 → T15 → T16 → T17 → T18 → T19 → Prop} {a1 : T1} {a2 : T2} {a3 : T3} {a4 : T4} {a5 : T5} {a6 : T6} {a7 : T7} {a8 : T8} {a9 : T9} {a10 : T10} {a11 : T11} {a12 : T12} {a13 : T13} {a14 : T14} {a15 : T15} {a16 : T16} {a17 : T17} {a18 : T18} {a19 : T19} {Gg : T1 → T2 → T3 → T4 → T5 → T6 → T7 → T8 → T9 → T10 → T11 → T12 → T13 → T14 → T15 → T16 → T17 → T18 → T19 → Prop} (h : Lz19 body a1 a2 a3 a4 a5 a6 a7 a8 a9 a10 a11 a12 a13 a14 a15 a16 a17 a18 a19) (step : ∀ (again : T1 → T2 → T3 → T4 → T5 → T6 → T7 → T8 → T9 → T10 → T11 → T12 → T13 → T14 → T15 → T16 → T17 → T18 → T19 → Prop), (∀ (a1 : T1) (a2 : T2) (a3 : T3) (a4 : T4) (a5 : T5) (a6 : T6) (a7 : T7) (a8 : T8) (a9 : T9) (a10 : T10) (a11 : T11) (a12 : T12) (a13 : T13) (a14 : T14) (a15 : T15) (a16 : T16) (a17 : T17) (a18 : T18) (a19 : T19), again a1 a2 a3 a4 a5 a6 a7 a8 a9 a10 a11 a12 a13 a14 a15 a16 a17 a18 a19 → Gg a1 a2 a3 a4 a5 a6 a7 a8 a9 a10 a11 a12 a13 a14 a15 a16 a17 a18 a19) → ∀ (a1 : T1) (a2 : T2) (a3 : T3) (a4 : T4) (a5 : T5) (a6 : T6) (a7 : T7) (a8 : T8) (a9 : T9) (a10 : T10) (a11 : T11) (a12 : T12) (a13 : T13) (a14 : T14) (a15 : T15) (a16 : T16) (a17 : T17) (a18 : T18) (a19 : T19), body again a1 a2 a3 a4 a5 a6 a7 a8 a9 a10 a11 a12 a13 a14 a15 a16 a17 a18 a19 → Gg a1 a2 a3 a4 a5 a6 a7 a8 a9 a10 a11 a12 a13 a14 a15 a16 a17 a18 a19) : Gg a1 a2 a3 a4 a5 a6 a7 a8 a9 a10 a11 a12 a13 a14 a15 a16 a17 a18 a19 := by
  obtain ⟨n, h⟩ := h
  induction n generalizing a1 a2 a3 a4 a5 a6 a7 a8 a9 a10 a11 a12 a13 a14 a15 a16 a17 a18 a19 with
  | zero => exact h.elim
  | succ n ih => exact step (lz19 body n) (fun a1 a2 a3 a4 a5 a6 a7 a8 a9 a10 a11 a12 a13 a14 a15 a16 a17 a18 a19 h => ih h) a1 a2 a3 a4 a5 a6 a7 a8 a9 a10 a11 a12 a13 a14 a15 a16 a17 a18 a19 h
theorem Lz19_by {T1 T2 T3 T4 T5 T6 T7 T8 T9 T10 T11 T12 T13 T14 T15 T16 T17 T18 T19 : Type} {body : (T1 → T2 → T3 → T4 → T5 → T6 → T7 → T8 → T9 → T10 → T11 → T12 → T13 → T14 → T15 → T16 → T17 → T18 → T19 → Prop) → T1 → T2 → T3 → T4 → T5 → T6 → T7 → T8 → T9 → T10 → T11 → T12 → T13 → T14 → T15 → T16 → T17 → T18 → T19 → Prop} (I : T1 → T2 → T3 → T4 → T5 → T6 → T7 → T8 → T9 → T10 → T11 → T12 → T13 → T14 → T15 → T16 → T17 → T18 → T19 → Prop) (μ : T1 → T2 → T3 → T4 → T5 → T6 → T7 → T8 → T9 → T10 → T11 → T12 → T13 → T14 → T15 → T16 → T17 → T18 → T19 → Nat) (a1 : T1) (a2 : T2) (a3 : T3) (a4 : T4) (a5 : T5) (a6 : T6) (a7 : T7) (a8 : T8) (a9 : T9) (a10 : T10) (a11 : T11) (a12 : T12) (a13 : T13) (a14 : T14) (a15 : T15) (a16 : T16) (a17 : T17) (a18 : T18) (a19 : T19) (h0 : I a1 a2 a3 a4 a5 a6 a7 a8 a9 a10 a11 a12 a13 a14 a15 a16 a17 a18 a19) (step : ∀ (a1 : T1) (a2 : T2) (a3 : T3) (a4 : T4) (a5 : T5) (a6 : T6) (a7 : T7) (a8 : T8) (a9 : T9) (a10 : T10) (a11 : T11) (a12 : T12) (a13 : T13) (a14 : T14) (a15 : T15) (a16 : T16) (a17 : T17) (a18 : T18) (a19 : T19), I a1 a2 a3 a4 a5 a6 a7 a8 a9 a10 a11 a12 a13 a14 a15 a16 a17 a18 a19 → ∀ (again : T1 → T2 → T3 → T4 → T5 → T6 → T7 → T8 → T9 → T10 → T11 → T12 → T13 → T14 → T15 → T16 → T17 → T18 → T19 → Prop), (∀ (b1 : T1) (b2 : T2) (b3 : T3) (b4 : T4) (b5 : T5) (b6 : T6) (b7 : T7) (b8 : T8) (b9 : T9) (b10 : T10) (b11 : T11) (b12 : T12) (b13 : T13) (b14 : T14) (b15 : T15) (b16 : T16) (b17 : T17) (b18 : T18) (b19 : T19), I b1 b2 b3 b4 b5 b6 b7 b8 b9 b10 b11 b12 b13 b14 b15 b16 b17 b18 b19 → μ b1 b2 b3 b4 b5 b6 b7 b8 b9 b10 b11 b12 b13 b14 b15 b16 b17 b18 b19 < μ a1 a2 a3 a4 a5 a6 a7 a8 a9 a10 a11 a12 a13 a14 a15 a16 a17 a18 a19 → again b1 b2 b3 b4 b5 b6 b7 b8 b9 b10 b11 b12 b13 b14 b15 b16 b17 b18 b19) → body again a1 a2 a3 a4 a5 a6 a7 a8 a9 a10 a11 a12 a13 a14 a15 a16 a17 a18 a19) : Lz19 body a1 a2 a3 a4 a5 a6 a7 a8 a9 a10 a11 a12 a13 a14 a15 a16 a17 a18 a19 := by
  have key : ∀ (n : Nat) (a1 : T1) (a2 : T2) (a3 : T3) (a4 : T4) (a5 : T5) (a6 : T6) (a7 : T7) (a8 : T8) (a9 : T9) (a10 : T10) (a11 : T11) (a12 : T12) (a13 : T13) (a14 : T14) (a15 : T15) (a16 : T16) (a17 : T17) (a18 : T18) (a19 : T19), I a1 a2 a3 a4 a5 a6 a7 a8 a9 a10 a11 a12 a13 a14 a15 a16 a17 a18 a19 → μ a1 a2 a3 a4 a5 a6 a7 a8 a9 a10 a11 a12 a13 a14 a15 a16 a17 a18 a19 < n → lz19 body n a1 a2 a3 a4 a5 a6 a7 a8 a9 a10 a11 a12 a13 a14 a15 a16 a17 a18 a19 := by
    intro n
    induction n with
    | zero => intro a1 a2 a3 a4 a5 a6 a7 a8 a9 a10 a11 a12 a13 a14 a15 a16 a17 a18 a19 _ h; exact absurd h (Nat.not_lt_zero _)
    | succ n ih => intro a1 a2 a3 a4 a5 a6 a7 a8 a9 a10 a11 a12 a13 a14 a15 a16 a17 a18 a19 hI hm; exact step a1 a2 a3 a4 a5 a6 a7 a8 a9 a10 a11 a12 a13 a14 a15 a16 a17 a18 a19 hI (lz19 body n) (fun b1 b2 b3 b4 b5 b6 b7 b8 b9 b10 b11 b12 b13 b14 b15 b16 b17 b18 b19 hI2 hm2 => ih b1 b2 b3 b4 b5 b6 b7 b8 b9 b10 b11 b12 b13 b14 b15 b16 b17 b18 b19 hI2 (Nat.lt_of_lt_of_le hm2 (Nat.le_of_lt_succ hm)))
  exact ⟨_, key (μ a1 a2 a3 a4 a5 a6 a7 a8 a9 a10 a11 a12 a13 a14 a15 a16 a17 a18 a19 + 1) a1 a2 a3 a4 a5 a6 a7 a8 a9 a10 a11 a12 a13 a14 a15 a16 a17 a18 a19 h0 (Nat.lt_succ_self _)⟩
def lz20 {T1 T2 T3 T4 T5 T6 T7 T8 T9 T10 T11 T12 T13 T14 T15 T16 T17 T18 T19 T20 : Type} (body : (T1 → T2 → T3 → T4 → T5 → T6 → T7 → T8 → T9 → T10 → T11 → T12 → T13 → T14 → T15 → T16 → T17 → T18 → T19 → T20 → Prop) → T1 → T2 → T3 → T4 → T5 → T6 → T7 → T8 → T9 → T10 → T11 → T12 → T13 → T14 → T15 → T16 → T17 → T18 → T19 → T20 → Prop) : Nat → T1 → T2 → T3 → T4 → T5 → T6 → T7 → T8 → T9 → T10 → T11 → T12 → T13 → T14 → T15 → T16 → T17 → T18 → T19 → T20 → Prop
  | 0 => fun _ _ _ _ _ _ _ _ _ _ _ _ _ _ _ _ _ _ _ _ => False
  | n + 1 => body (lz20 body n)
def Lz20 {T1 T2 T3 T4 T5 T6 T7 T8 T9 T10 T11 T12 T13 T14 T15 T16 T17 T18 T19 T20 : Type} (body : (T1 → T2 → T3 → T4 → T5 → T6 → T7 → T8 → T9 → T10 → T11 → T12 → T13 → T14 → T15 → T16 → T17 → T18 → T19 → T20 → Prop) → T1 → T2 → T3 → T4 → T5 → T6 → T7 → T8 → T9 → T10 → T11 → T12 → T13 → T14 → T15 → T16 → T17 → T18 → T19 → T20 → Prop) (a1 : T1) (a2 : T2) (a3 : T3) (a4 : T4) (a5 : T5) (a6 : T6) (a7 : T7) (a8 : T8) (a9 : T9) (a10 : T10) (a11 : T11) (a12 : T12) (a13 : T13) (a14 : T14) (a15 : T15) (a16 : T16) (a17 : T17) (a18 : T18) (a19 : T19) (a20 : T20) : Prop := ∃ n, lz20 body n a1 a2 a3 a4 a5 a6 a7 a8 a9 a10 a11 a12 a13 a14 a15 a16 a17 a18 a19 a20
theorem Lz20_go {T1 T2 T3 T4 T5 T6 T7 T8 T9 T10 T11 T12 T13 T14 T15 T16 T17 T18 T19 T20 : Type} {body : (T1 → T2 → T3 → T4 → T5 → T6 → T7 → T8 → T9 → T10 → T11 → T12 → T13 → T14 → T15 → T16 → T17 → T18 → T19 → T20 → Prop) → T1 → T2 → T3 → T4 → T5 → T6 → T7 → T8 → T9 → T10 → T11 → T12 → T13 → T14 → T15 → T16 → T17 → T18 → T19 → T20 → Prop} {a1 : T1} {a2 : T2} {a3 : T3} {a4 : T4} {a5 : T5} {a6 : T6} {a7 : T7} {a8 : T8} {a9 : T9} {a10 : T10} {a11 : T11} {a12 : T12} {a13 : T13} {a14 : T14} {a15 : T15} {a16 : T16} {a17 : T17} {a18 : T18} {a19 : T19} {a20 : T20} {Gg : T1 → T2 → T3 → T4 → T5 → T6 → T7 → T8 → T9 → T10 → T11 → T12 → T13 → T14 → T15 → T16 → T17 → T18 → T19 → T20 → Prop} (h : Lz20 body a1 a2 a3 a4 a5 a6 a7 a8 a9 a10 a11 a12 a13 a14 a15 a16 a17 a18 a19 a20) (step : ∀ (again : T1 → T2 → T3 → T4 → T5 → T6 → T7 → T8 → T9 → T10 → T11 → T12 → T13 → T14 → T15 → T16 → T17 → T18 → T19 → T20 → Prop), (∀ (a1 : T1) (a2 : T2) (a3 : T3) (a4 : T4) (a5 : T5) (a6 : T6) (a7 : T7) (a8 : T8) (a9 : T9) (a10 : T10) (a11 : T11) (a12 : T12) (a13 : T13) (a14 : T14) (a15 : T15) (a16 : T16) (a17 : T17) (a18 : T18) (a19 : T19) (a20 : T20), again a1 a2 a3 a4 a5 a6 a7 a8 a9 a10 a11 a12 a13 a14 a15 a16 a17 a18 a19 a20 → Gg a1 a2 a3 a4 a5 a6 a7 a8 a9 a10 a11 a12 a13 a14 a15 a16 a17 a18 a19 a20) → ∀ (a1 : T1) (a2 : T2) (a3 : T3) (a4 : T4) (a5 : T5) (a6 : T6) (a7 : T7) (a8 : T8) (a9 : T9) (a10 : T10) (a11 : T11) (a12 : T12) (a13 : T13) (a14 : T14) (a15 : T15) (a16 : T16) (a17 : T17) (a18 : T18) (a19 : T19) (a20 : T20), body again a1 a2 a3 a4 a5 a6 a7 a8 a9 a10 a11 a12 a13 a14 a15 a16 a17 a18 a19 a20 → Gg a1 a2 a3 a4 a5 a6 a7 a8 a9 a10 a11 a12 a13 a14 a15 a16 a17 a18 a19 a20) : Gg a1 a2 a3 a4 a5 a6 a7 a8 a9 a10 a11 a12 a13 a14 a15 a16 a17 a18 a19 a20 := by
  obtain ⟨n, h⟩ := h
  induction n generalizing a1 a2 a3 a4 a5 a6 a7 a8 a9 a10 a11 a12 a13 a14 a15 a16 a17 a18 a19 a20 with
  | zero => exact h.elim
  | succ n ih => exact step (lz20 body n) (fun a1 a2 a3 a4 a5 a6 a7 a8 a9 a10 a11 a12 a13 a14 a15 a16 a17 a18 a19 a20 h => ih h) a1 a2 a3 a4 a5 a6 a7 a8 a9 a10 a11 a12 a13 a14 a15 a16 a17 a18 a19 a20 h
theorem Lz20_by {T1 T2 T3 T4 T5 T6 T7 T8 T9 T10 T11 T12 T13 T14 T15 T16 T17 T18 T19 T20 : Type} {body : (T1 → T2 → T3 → T4 → T5 → T6 → T7 → T8 → T9 → T10 → T11 → T12 → T13 → T14 → T15 → T16 → T17 → T18 → T19 → T20 → Prop) → T1 → T2 → T3 → T4 → T5 → T6 → T7 → T8 → T9 → T10 → T11 → T12 → T13 → T14 → T15 → T16 → T17 → T18 → T19 → T20 → Prop} (I : T1 → T2 → T3 → T4 → T5 → T6 → T7 → T8 → T9 → T10 → T11 → T12 → T13 → T14 → T15 → T16 → T17 → T18 → T19 → T20 → Prop) (μ : T1 → T2 → T3 → T4 → T5 → T6 → T7 → T8 → T9 → T10 → T11 → T12 → T13 → T14 → T15 → T16 → T17 → T18 → T19 → T20 → Nat) (a1 : T1) (a2 : T2) (a3 : T3) (a4 : T4) (a5 : T5) (a6 : T6) (a7 : T7) (a8 : T8) (a9 : T9) (a10 : T10) (a11 : T11) (a12 : T12) (a13 : T13) (a14 : T14) (a15 : T15) (a16 : T16) (a17 : T17) (a18 : T18) (a19 : T19) (a20 : T20) (h0 : I a1 a2 a3 a4 a5 a6 a7 a8 a9 a10 a11 a12 a13 a14 a15 a16 a17 a18 a19 a20) (step : ∀ (a1 : T1) (a2 : T2) (a3 : T3) (a4 : T4) (a5 : T5) (a6 : T6) (a7 : T7) (a8 : T8) (a9 : T9) (a10 : T10) (a11 : T11) (a12 : T12) (a13 : T13) (a14 : T14) (a15 : T15) (a16 : T16) (a17 : T17) (a18 : T18) (a19 : T19) (a20 : T20), I a1 a2 a3 a4 a5 a6 a7 a8 a9 a10 a11 a12 a13 a14 a15 a16 a17 a18 a19 a20 → ∀ (again : T1 → T2 → T3 → T4 → T5 → T6 → T7 → T8 → T9 → T10 → T11 → T12 → T13 → T14 → T15 → T16 → T17 → T18 → T19 → T20 → Prop), (∀ (b1 : T1) (b2 : T2) (b3 : T3) (b4 : T4) (b5 : T5) (b6 : T6) (b7 : T7) (b8 : T8) (b9 : T9) (b10 : T10) (b11 : T11) (b12 : T12) (b13 : T13) (b14 : T14) (b15 : T15) (b16 : T16) (b17 : T17) (b18 : T18) (b19 : T19) (b20 : T20), I b1 b2 b3 b4 b5 b6 b7 b8 b9 b10 b11 b12 b13 b14 b15 b16 b17 b18 b19 b20 → μ b1 b2 b3 b4 b5 b6 b7 b8 b9 b10 b11 b12 b13 b14 b15 b16 b17 b18 b19 b20 < μ a1 a2 a3 a4 a5 a6 a7 a8 a9 a10 a11 a12 a13 a14 a15 a16 a17 a18 a19 a20 → again b1 b2 b3 b4 b5 b6 b7 b8 b9 b10 b11 b12 b13 b14 b15 b16 b17 b18 b19 b20) → body again a1 a2 a3 a4 a5 a6 a7 a8 a9 a10 a11 a12 a13 a14 a15 a16 a17 a18 a19 a20) : Lz20 body a1 a2 a3 a4 a5 a6 a7 a8 a9 a10 a11 a12 a13 a14 a15 a16 a17 a18 a19 a20 := by
  have key : ∀ (n : Nat) (a1 : T1) (a2 : T2) (a3 : T3) (a4 : T4) (a5 : T5) (a6 : T6) (a7 : T7) (a8 : T8) (a9 : T9) (a10 : T10) (a11 : T11) (a12 : T12) (a13 : T13) (a14 : T14) (a15 : T15) (a16 : T16) (a17 : T17) (a18 : T18) (a19 : T19) (a20 : T20), I a1 a2 a3 a4 a5 a6 a7 a8 a9 a10 a11 a12 a13 a14 a15 a16 a17 a18 a19 a20 → μ a1 a2 a3 a4 a5 a6 a7 a8 a9 a10 a11 a12 a13 a14 a15 a16 a17 a18 a19 a20 < n → lz20 body n a1 a2 a3 a4 a5 a6 a7 a8 a9 a10 a11 a12 a13 a14 a15 a16 a17 a18 a19 a20 := by
    intro n
    induction n with
    | zero => intro a1 a2 a3 a4 a5 a6 a7 a8 a9 a10 a11 a12 a13 a14 a15 a16 a17 a18 a19 a20 _ h; exact absurd h (Nat.not_lt_zero _)
    | succ n ih => intro a1 a2 a3 a4 a5 a6 a7 a8 a9 a10 a11 a12 a13 a14 a15 a16 a17 a18 a19 a20 hI hm; exact step a1 a2 a3 a4 a5 a6 a7 a8 a9 a10 a11 a12 a13 a14 a15 a16 a17 a18 a19 a20 hI (lz20 body n) (fun b1 b2 b3 b4 b5 b6 b7 b8 b9 b10 b11 b12 b13 b14 b15 b16 b17 b18 b19 b20 hI2 hm2 => ih b1 b2 b3 b4 b5 b6 b7 b8 b9 b10 b11 b12 b13 b14 b15 b16 b17 b18 b19 b20 hI2 (Nat.lt_of_lt_of_le hm2 (Nat.le_of_lt_succ hm)))
  exact ⟨_, key (μ a1 a2 a3 a4 a5 a6 a7 a8 a9 a10 a11 a12 a13 a14 a15 a16 a17 a18 a19 a20 + 1) a1 a2 a3 a4 a5 a6 a7 a8 a9 a10 a11 a12 a13 a14 a15 a16 a17 a18 a19 a20 h0 (Nat.lt_succ_self _)⟩
def setAll : va_W → List Nat → va_W → va_W
  | ws, i :: is, q :: qs => setAll (ws.set i q) is qs
  | ws, _, _ => ws
theorem setAll_len : ∀ (is : List Nat) (qs : va_W) (ws : va_W), (setAll ws is qs).length = ws.length
  | [], _, _ => by simp [setAll]
  | _ :: _, [], _ => by simp [setAll]
  | i :: is, q :: qs, ws => by rw [setAll, setAll_len is qs, List.length_set]
/-- each cell of the world with some cells put anew: one of the new ones, at its place, or an old one at a place that none of the new has -/
theorem setAll_get : ∀ (is : List Nat) (qs ws : va_W) (k : Nat) (q : Nat × va_E), (setAll ws is qs)[k]? = some q → (∃ j, is[j]? = some k ∧ qs[j]? = some q) ∨ (ws[k]? = some q ∧ ∀ j, is[j]? = some k → qs.length ≤ j)
  | [], qs, ws, k, q, h => by
    rw [setAll] at h
    · exact Or.inr ⟨h, fun j hj => by simp at hj⟩
    · intro i is q qs h; cases h
  | i :: is, [], ws, k, q, h => by
    rw [setAll] at h
    · exact Or.inr ⟨h, fun j hj => by simp⟩
    · intro i is q qs _ h; cases h
  | i :: is, q0 :: qs, ws, k, q, h => by
    rw [setAll] at h
    rcases setAll_get is qs (ws.set i q0) k q h with ⟨j, h1, h2⟩ | ⟨h1, h2⟩
    · exact Or.inl ⟨j + 1, by rw [List.getElem?_cons_succ]; exact h1, by rw [List.getElem?_cons_succ]; exact h2⟩
    · by_cases hk : i = k
      · subst hk
        rw [List.getElem?_set] at h1
        simp only [if_true] at h1
        split at h1
        · exact Or.inl ⟨0, rfl, h1⟩
        · cases h1
      · rw [List.getElem?_set, if_neg hk] at h1
        refine Or.inr ⟨h1, fun j hj => ?_⟩
        cases j with
        | zero => rw [List.getElem?_cons_zero] at hj; exact absurd (Option.some.inj hj) hk
        | succ j => rw [List.getElem?_cons_succ] at hj; exact Nat.succ_le_succ (h2 j hj)
/-- behind a call that makes no cell: the callee's cells stand where they stood, the others are unchanged -/
theorem jI {A0 : Nat → Prop} {D : va_G} {cl : List vw_C} {ws wc w1 : va_W} {H H1 : Heap} (hP : va_P D cl ws H) (hD : va_D A0 ws) (is : List Nat) (hC : is.map (fun i => ws[i]?) = wc.map some) (ha : w1.map Prod.fst = wc.map Prod.fst)
    (hk : ∀ q : Nat, q < H.size → ¬ va_A wc H.size q → H1[q]? = H[q]?) (hP1 : va_P D cl w1 H1) : va_P D cl (setAll ws is w1) H1 ∧ va_D A0 (setAll ws is w1) := by
  have hlen : w1.length = wc.length := by have := congrArg List.length ha; simpa using this
  have hlen2 : is.length = wc.length := by have := congrArg List.length hC; simpa using this
  have atC : ∀ (j i : Nat), is[j]? = some i → ∃ q, wc[j]? = some q ∧ ws[i]? = some q := by
    intro j i hj
    have h1 : (is.map (fun i => ws[i]?))[j]? = some (ws[i]?) := by rw [List.getElem?_map, hj]; rfl
    rw [hC, List.getElem?_map] at h1
    cases hq : wc[j]? with
    | none => rw [hq] at h1; cases h1
    | some q => rw [hq] at h1; exact ⟨q, rfl, (Option.some.inj h1).symm⟩
  have addr : ∀ (j : Nat) (q q' : Nat × va_E), w1[j]? = some q → wc[j]? = some q' → q.1 = q'.1 := by
    intro j q q' h1 h2
    have e1 : (w1.map Prod.fst)[j]? = some q.1 := by rw [List.getElem?_map, h1]; rfl
    have e2 : (wc.map Prod.fst)[j]? = some q'.1 := by rw [List.getElem?_map, h2]; rfl
    rw [ha, e2] at e1
    exact (Option.some.inj e1).symm
  -- each new cell has the address that stood at its place
  have key : ∀ (k : Nat) (q : Nat × va_E), (setAll ws is w1)[k]? = some q → ∃ q0, ws[k]? = some q0 ∧ q.1 = q0.1 ∧ ((∃ j, is[j]? = some k ∧ w1[j]? = some q) ∨ (q = q0 ∧ ∀ j, is[j]? ≠ some k)) := by
    intro k q h
    rcases setAll_get is w1 ws k q h with ⟨j, h1, h2⟩ | ⟨h1, h2⟩
    · obtain ⟨q0, h3, h4⟩ := atC j k h1
      exact ⟨q0, h4, addr j q q0 h2 h3, Or.inl ⟨j, h1, h2⟩⟩
    · refine ⟨q, h1, rfl, Or.inr ⟨rfl, fun j hj => ?_⟩⟩
      have h3 := h2 j hj
      have h4 : j < is.length := (List.getElem?_eq_some_iff.mp hj).1
      omega
  refine ⟨fun k q h => ?_, fun i j x y hi hj hxy => ?_, fun k q h => ?_⟩
  · obtain ⟨q0, h1, h2, h3⟩ := key k q h
    rcases h3 with ⟨j, -, h4⟩ | ⟨h4, h5⟩
    · exact hP1 j q h4
    · subst h4
      refine (hP k q h1).kept (hk q.1 (hP k q h1).lt (fun hA => ?_))
      rcases hA with ⟨j, e, hj⟩ | hA
      · have h6 : j < is.length := by rw [hlen2]; exact (List.getElem?_eq_some_iff.mp hj).1
        obtain ⟨i, hi⟩ : ∃ i, is[j]? = some i := ⟨is[j], List.getElem?_eq_getElem h6⟩
        obtain ⟨q1, h7, h8⟩ := atC j i hi
        rw [hj] at h7
        have h9 := Option.some.inj h7
        have h10 := hD.1 k i q q1 h1 h8 (by rw [← h9])
        rw [← h10] at hi
        exact h5 j hi
      · have := (hP k q h1).lt
        omega
  · obtain ⟨x0, h1, h2, -⟩ := key i x hi
    obtain ⟨y0, h3, h4, -⟩ := key j y hj
    exact hD.1 i j x0 y0 h1 h3 (by rw [← h2, ← h4]; exact hxy)
  · obtain ⟨q0, h1, h2, -⟩ := key k q h
    rw [h2]
    exact hD.2 k q0 h1
theorem dSub {A : Nat → Prop} {ws ws' : va_W} (hD : va_D A ws) (is : List Nat) (hn : va_nd is = true) (hs : is.map (fun i => ws[i]?) = ws'.map some) : va_D (fun _ => True) ws' := (hD.sub is hn hs).weaken (fun _ _ _ _ => trivial)
theorem pSub {D : va_G} {cl : List vw_C} {ws ws' : va_W} {H : Heap} (hP : va_P D cl ws H) (is : List Nat) (hs : is.map (fun i => ws[i]?) = ws'.map some) : va_P D cl ws' H := by
  intro k q hk
  have h1 : (is.map (fun i => ws[i]?))[k]? = some (some q) := by rw [hs, List.getElem?_map, hk]; rfl
  rw [List.getElem?_map] at h1
  cases hi : is[k]? with
  | none => rw [hi] at h1; cases h1
  | some i => rw [hi] at h1; exact hP i q (Option.some.inj h1)
abbrev tyX (cy : Nat → ClassId) : List (ClassId × FieldType) := [(cy 0, .int), (cy 1, .boolean), (cy 2, .object "HeadsetBands$Tree"), (cy 3, .object "HeadsetBands$Ear"), (cy 4, .object "HeadsetBands$Packet"), (cy 5, .object "HeadsetBands$Way")]
def nestM : List (String × Nat × MethodName × String) := [("HeadsetBands$Way", 17, ⟨"HeadsetBands$Book", "<init>", "()V"⟩, "HeadsetBands"), ("HeadsetBands$Queue", 32, ⟨"HeadsetBands$Packet", "<init>", "()V"⟩, "HeadsetBands"), ("HeadsetBands$Packet", 24, ⟨"HeadsetBands$Code", "<init>", "()V"⟩, "HeadsetBands"), ("HeadsetBands$Coder", 11, ⟨"HeadsetBands$Tree", "<init>", "()V"⟩, "HeadsetBands"), ("HeadsetBands$Coder", 24, ⟨"HeadsetBands$Frame", "<init>", "()V"⟩, "HeadsetBands"), ("HeadsetBands$Coder", 31, ⟨"HeadsetBands$Code", "<init>", "()V"⟩, "HeadsetBands"), ("HeadsetBands$Player", 11, ⟨"HeadsetBands$Ear", "<init>", "()V"⟩, "HeadsetBands"), ("HeadsetBands$Ear", 11, ⟨"HeadsetBands$Tree", "<init>", "()V"⟩, "HeadsetBands"), ("HeadsetBands$Player", 20, ⟨"HeadsetBands$Frame", "<init>", "()V"⟩, "HeadsetBands"), ("HeadsetBands", 25, ⟨"HeadsetBands$Frame", "<init>", "()V"⟩, "HeadsetBands"), ("HeadsetBands", 32, ⟨"HeadsetBands$Code", "<init>", "()V"⟩, "HeadsetBands"), ("HeadsetBands", 39, ⟨"HeadsetBands$Tree", "<init>", "()V"⟩, "HeadsetBands"), ("HeadsetBands$Coder", 52, ⟨"HeadsetBands", "sampleOf", "([III)I"⟩, "HeadsetBands"), ("HeadsetBands$Book", 30, ⟨"HeadsetBands", "within", "(III)Z"⟩, "HeadsetBands"), ("HeadsetBands$Book", 38, ⟨"HeadsetBands", "nearest", "(III)I"⟩, "HeadsetBands"), ("HeadsetBands$Ear", 68, ⟨"HeadsetBands", "nearestSample", "(I)I"⟩, "HeadsetBands"), ("HeadsetBands$Player", 149, ⟨"HeadsetBands", "sampleOf", "([III)I"⟩, "HeadsetBands"), ("HeadsetBands$Player", 159, ⟨"HeadsetBands", "nearest", "(III)I"⟩, "HeadsetBands")]
def nestF : List (String × Nat × String × String × String × String) := [("HeadsetBands$Way", 56, "HeadsetBands", "FIRST_TOLD", "[I", "HeadsetBands"), ("HeadsetBands$Way", 65, "HeadsetBands", "FIRST_LOUD", "[I", "HeadsetBands"), ("HeadsetBands$Way", 68, "HeadsetBands", "FIRST_TONES", "[I", "HeadsetBands")]
/-- what the tables say of nest mates, and of rows of objects -/
def GW (U : State) : Prop := (∀ q ∈ nestM, va_Nw (.methodLinkNest q.1 q.2.1 q.2.2.1 q.2.2.2) U) ∧ (∀ q ∈ nestF, va_Nw (.fieldLinkNest q.1 q.2.1 q.2.2.1 q.2.2.2.1 q.2.2.2.2.1 q.2.2.2.2.2) U) ∧ va_AO "HeadsetBands$Tree" U ∧ va_AO "HeadsetBands$Ear" U ∧ va_AO "HeadsetBands$Packet" U ∧ va_AO "HeadsetBands$Way" U
theorem GW_warm {s U : State} (hW : s.WarmedH U.vm) (h : GW s) : GW U := ⟨fun q hq => (h.1 q hq).warmM hW, fun q hq => (h.2.1 q hq).warmF hW, h.2.2.1.moved hW.alike, h.2.2.2.1.moved hW.alike, h.2.2.2.2.1.moved hW.alike, h.2.2.2.2.2.moved hW.alike⟩
theorem GW_same {s U : State} (e : s.vm = U.vm) (h : GW s) : GW U := ⟨fun q hq => va_Nw.same rfl e (h.1 q hq), fun q hq => va_Nw.same rfl e (h.2.1 q hq), h.2.2.1.moved (by rw [e]; exact Vm.Alike.refl _), h.2.2.2.1.moved (by rw [e]; exact Vm.Alike.refl _), h.2.2.2.2.1.moved (by rw [e]; exact Vm.Alike.refl _), h.2.2.2.2.2.moved (by rw [e]; exact Vm.Alike.refl _)⟩
/-- a contract's start -/
def PX (dC : Nat → ClassId) (dI : Nat → Nat → Nat) (cy : Nat → ClassId) (av : List Value) (sz : Nat) (ws : va_W) : Array Value → State → Prop := va_Pc av (fun U => U.heap.size = sz ∧ va_P (dC, dI) vwCl ws U.heap ∧ va_K (dC, dI) vwCl (tyX cy) U ∧ va_D (fun _ => True) ws ∧ GW U)
theorem PX_blind {dC : Nat → ClassId} {dI : Nat → Nat → Nat} {cy : Nat → ClassId} {av : List Value} {sz : Nat} {ws : va_W} : FrameBlind (PX dC dI cy av sz ws) := by
  intro a U g mk q
  obtain ⟨q0, q1, qP, qK, qD, qG⟩ := q
  exact ⟨q0, q1, qP, va_K.moved (u := U) (U := U.calling g mk a) (Vm.Alike.refl U.vm) qK, qD, GW_same (s := U) (U := U.calling g mk a) rfl qG⟩
theorem PX_pre {dC : Nat → ClassId} {dI : Nat → Nat → Nat} {cy : Nat → ClassId} {av : List Value} {ws : va_W} {H : Heap} {s : State} (hP : va_P (dC, dI) vwCl ws H) (hK : va_K (dC, dI) vwCl (tyX cy) s) (hD : va_D (fun _ => True) ws) (hG : GW s) :
    ∀ U : State, U.heap = H → s.WarmedH U.vm → PX dC dI cy av H.size ws av.toArray U := by
  intro U hU hW
  exact ⟨rfl, by rw [hU], by rw [hU]; exact hP, va_K.moved hW.alike hK, hD, GW_warm hW hG⟩
/-- a contract's end: the world that is there then -/
abbrev QX {S : Type} (dC : Nat → ClassId) (dI : Nat → Nat → Nat) (cy : Nat → ClassId) (A : Nat → Prop) (w : S → va_W) : S → State → Prop := fun u t => va_P (dC, dI) vwCl (w u) t.heap ∧ va_K (dC, dI) vwCl (tyX cy) t ∧ va_D A (w u)
abbrev jrem (x y : Int32) : Int32 := x - x / y * y
abbrev lrem (x y : Int64) : Int64 := x - x / y * y
abbrev jmax (x y : Int32) : Int32 := if x < y then y else x
abbrev jmin (x y : Int32) : Int32 := if y < x then y else x
abbrev jabs (x : Int32) : Int32 := if 0 ≤ x then x else 0 - x
abbrev lmax (x y : Int64) : Int64 := if y < x then x else y
abbrev lmin (x y : Int64) : Int64 := if x < y then x else y
abbrev isB (x : Int32) : Prop := narrow .boolean (.int x) = .int x
theorem isB_0 : isB 0 := by decide +kernel
theorem isB_1 : isB 1 := by decide +kernel
theorem sw_ne {x k : Int32} {n : Int} (h : ¬ x = k) (hn : k.toInt = n) : x.toInt ≠ n := fun q => h (Int32.toInt_inj.mp (by rw [q, hn]))
