/-! THE SMALL MACHINE, WHOLE: one outcome, and what is counted only grows. -/
theorem mckO_some {α : Type} {b : Bool} {o : Option α} {x : α} (h : mckO b o = some x) : b = true ∧ o = some x := by
  cases b
  · cases h
  · exact ⟨rfl, h⟩
theorem mifO_some {α : Type} {b : Bool} {o o2 : Option α} {x : α} (h : mifO b o o2 = some x) : (b = true ∧ o = some x) ∨ (b = false ∧ o2 = some x) := by
  cases b
  · exact Or.inr ⟨rfl, h⟩
  · exact Or.inl ⟨rfl, h⟩
def mGe (h : mH) (x : mS) : Prop := match x with
  | .inl (_, _, _, h') => mCt h ≤ mCt h' ∧ mSl h ≤ mSl h'
  | .inr (.inl (_, h')) => mCt h ≤ mCt h' ∧ mSl h ≤ mSl h'
  | .inr (.inr (_, _, _, _, _, h')) => mCt h ≤ mCt h' ∧ mSl h ≤ mSl h'
set_option maxRecDepth 100000 in
set_option maxHeartbeats 8000000 in
theorem mx_ge {own m pc : Nat} {ins : Instr} {lo : mLo} {st : mSt} {h : mH} {x : mS} (hx : mxF own m pc ins lo st h = some x) : mGe h x := by
  unfold mxF at hx
  split at hx
  all_goals first
    | (cases hx; done)
    | (cases hx; exact ⟨Nat.le_refl _, Nat.le_refl _⟩)
    | (cases hx; exact ⟨Nat.le_succ _, Nat.le_add_right _ _⟩)
    | (cases hx; exact ⟨Nat.le_add_right _ _, Nat.le_add_right _ _⟩)
    | (have hx := (mckO_some hx).2; first
        | (cases hx; done)
        | (cases hx; exact ⟨Nat.le_refl _, Nat.le_refl _⟩)
        | (cases hx; exact ⟨Nat.le_succ _, Nat.le_add_right _ _⟩)
        | (cases hx; exact ⟨Nat.le_add_right _ _, Nat.le_add_right _ _⟩)
        | (have hx := (mckO_some hx).2; first
            | (cases hx; done)
            | (cases hx; exact ⟨Nat.le_refl _, Nat.le_refl _⟩)
            | (cases hx; exact ⟨Nat.le_succ _, Nat.le_add_right _ _⟩)
            | (cases hx; exact ⟨Nat.le_add_right _ _, Nat.le_add_right _ _⟩)
            | (have hx := (mckO_some hx).2; first
                | (cases hx; done)
                | (cases hx; exact ⟨Nat.le_refl _, Nat.le_refl _⟩)
                | (cases hx; exact ⟨Nat.le_succ _, Nat.le_add_right _ _⟩)
                | (cases hx; exact ⟨Nat.le_add_right _ _, Nat.le_add_right _ _⟩)
                | (have hx := (mckO_some hx).2; first
                    | (cases hx; done)
                    | (cases hx; exact ⟨Nat.le_refl _, Nat.le_refl _⟩)
                    | (cases hx; exact ⟨Nat.le_succ _, Nat.le_add_right _ _⟩)
                    | (cases hx; exact ⟨Nat.le_add_right _ _, Nat.le_add_right _ _⟩)
                  )
                | (rcases mifO_some hx with ⟨_, hx⟩ | ⟨_, hx⟩ <;> first
                    | (cases hx; done)
                    | (cases hx; exact ⟨Nat.le_refl _, Nat.le_refl _⟩)
                    | (cases hx; exact ⟨Nat.le_succ _, Nat.le_add_right _ _⟩)
                    | (cases hx; exact ⟨Nat.le_add_right _ _, Nat.le_add_right _ _⟩)
                  )
                | (split at hx <;> first
                    | (cases hx; done)
                    | (cases hx; exact ⟨Nat.le_refl _, Nat.le_refl _⟩)
                    | (cases hx; exact ⟨Nat.le_succ _, Nat.le_add_right _ _⟩)
                    | (cases hx; exact ⟨Nat.le_add_right _ _, Nat.le_add_right _ _⟩)
                  )
              )
            | (rcases mifO_some hx with ⟨_, hx⟩ | ⟨_, hx⟩ <;> first
                | (cases hx; done)
                | (cases hx; exact ⟨Nat.le_refl _, Nat.le_refl _⟩)
                | (cases hx; exact ⟨Nat.le_succ _, Nat.le_add_right _ _⟩)
                | (cases hx; exact ⟨Nat.le_add_right _ _, Nat.le_add_right _ _⟩)
                | (have hx := (mckO_some hx).2; first
                    | (cases hx; done)
                    | (cases hx; exact ⟨Nat.le_refl _, Nat.le_refl _⟩)
                    | (cases hx; exact ⟨Nat.le_succ _, Nat.le_add_right _ _⟩)
                    | (cases hx; exact ⟨Nat.le_add_right _ _, Nat.le_add_right _ _⟩)
                  )
                | (rcases mifO_some hx with ⟨_, hx⟩ | ⟨_, hx⟩ <;> first
                    | (cases hx; done)
                    | (cases hx; exact ⟨Nat.le_refl _, Nat.le_refl _⟩)
                    | (cases hx; exact ⟨Nat.le_succ _, Nat.le_add_right _ _⟩)
                    | (cases hx; exact ⟨Nat.le_add_right _ _, Nat.le_add_right _ _⟩)
                  )
                | (split at hx <;> first
                    | (cases hx; done)
                    | (cases hx; exact ⟨Nat.le_refl _, Nat.le_refl _⟩)
                    | (cases hx; exact ⟨Nat.le_succ _, Nat.le_add_right _ _⟩)
                    | (cases hx; exact ⟨Nat.le_add_right _ _, Nat.le_add_right _ _⟩)
                  )
              )
            | (split at hx <;> first
                | (cases hx; done)
                | (cases hx; exact ⟨Nat.le_refl _, Nat.le_refl _⟩)
                | (cases hx; exact ⟨Nat.le_succ _, Nat.le_add_right _ _⟩)
                | (cases hx; exact ⟨Nat.le_add_right _ _, Nat.le_add_right _ _⟩)
                | (have hx := (mckO_some hx).2; first
                    | (cases hx; done)
                    | (cases hx; exact ⟨Nat.le_refl _, Nat.le_refl _⟩)
                    | (cases hx; exact ⟨Nat.le_succ _, Nat.le_add_right _ _⟩)
                    | (cases hx; exact ⟨Nat.le_add_right _ _, Nat.le_add_right _ _⟩)
                  )
                | (rcases mifO_some hx with ⟨_, hx⟩ | ⟨_, hx⟩ <;> first
                    | (cases hx; done)
                    | (cases hx; exact ⟨Nat.le_refl _, Nat.le_refl _⟩)
                    | (cases hx; exact ⟨Nat.le_succ _, Nat.le_add_right _ _⟩)
                    | (cases hx; exact ⟨Nat.le_add_right _ _, Nat.le_add_right _ _⟩)
                  )
                | (split at hx <;> first
                    | (cases hx; done)
                    | (cases hx; exact ⟨Nat.le_refl _, Nat.le_refl _⟩)
                    | (cases hx; exact ⟨Nat.le_succ _, Nat.le_add_right _ _⟩)
                    | (cases hx; exact ⟨Nat.le_add_right _ _, Nat.le_add_right _ _⟩)
                  )
              )
          )
        | (rcases mifO_some hx with ⟨_, hx⟩ | ⟨_, hx⟩ <;> first
            | (cases hx; done)
            | (cases hx; exact ⟨Nat.le_refl _, Nat.le_refl _⟩)
            | (cases hx; exact ⟨Nat.le_succ _, Nat.le_add_right _ _⟩)
            | (cases hx; exact ⟨Nat.le_add_right _ _, Nat.le_add_right _ _⟩)
            | (have hx := (mckO_some hx).2; first
                | (cases hx; done)
                | (cases hx; exact ⟨Nat.le_refl _, Nat.le_refl _⟩)
                | (cases hx; exact ⟨Nat.le_succ _, Nat.le_add_right _ _⟩)
                | (cases hx; exact ⟨Nat.le_add_right _ _, Nat.le_add_right _ _⟩)
                | (have hx := (mckO_some hx).2; first
                    | (cases hx; done)
                    | (cases hx; exact ⟨Nat.le_refl _, Nat.le_refl _⟩)
                    | (cases hx; exact ⟨Nat.le_succ _, Nat.le_add_right _ _⟩)
                    | (cases hx; exact ⟨Nat.le_add_right _ _, Nat.le_add_right _ _⟩)
                  )
                | (rcases mifO_some hx with ⟨_, hx⟩ | ⟨_, hx⟩ <;> first
                    | (cases hx; done)
                    | (cases hx; exact ⟨Nat.le_refl _, Nat.le_refl _⟩)
                    | (cases hx; exact ⟨Nat.le_succ _, Nat.le_add_right _ _⟩)
                    | (cases hx; exact ⟨Nat.le_add_right _ _, Nat.le_add_right _ _⟩)
                  )
                | (split at hx <;> first
                    | (cases hx; done)
                    | (cases hx; exact ⟨Nat.le_refl _, Nat.le_refl _⟩)
                    | (cases hx; exact ⟨Nat.le_succ _, Nat.le_add_right _ _⟩)
                    | (cases hx; exact ⟨Nat.le_add_right _ _, Nat.le_add_right _ _⟩)
                  )
              )
            | (rcases mifO_some hx with ⟨_, hx⟩ | ⟨_, hx⟩ <;> first
                | (cases hx; done)
                | (cases hx; exact ⟨Nat.le_refl _, Nat.le_refl _⟩)
                | (cases hx; exact ⟨Nat.le_succ _, Nat.le_add_right _ _⟩)
                | (cases hx; exact ⟨Nat.le_add_right _ _, Nat.le_add_right _ _⟩)
                | (have hx := (mckO_some hx).2; first
                    | (cases hx; done)
                    | (cases hx; exact ⟨Nat.le_refl _, Nat.le_refl _⟩)
                    | (cases hx; exact ⟨Nat.le_succ _, Nat.le_add_right _ _⟩)
                    | (cases hx; exact ⟨Nat.le_add_right _ _, Nat.le_add_right _ _⟩)
                  )
                | (rcases mifO_some hx with ⟨_, hx⟩ | ⟨_, hx⟩ <;> first
                    | (cases hx; done)
                    | (cases hx; exact ⟨Nat.le_refl _, Nat.le_refl _⟩)
                    | (cases hx; exact ⟨Nat.le_succ _, Nat.le_add_right _ _⟩)
                    | (cases hx; exact ⟨Nat.le_add_right _ _, Nat.le_add_right _ _⟩)
                  )
                | (split at hx <;> first
                    | (cases hx; done)
                    | (cases hx; exact ⟨Nat.le_refl _, Nat.le_refl _⟩)
                    | (cases hx; exact ⟨Nat.le_succ _, Nat.le_add_right _ _⟩)
                    | (cases hx; exact ⟨Nat.le_add_right _ _, Nat.le_add_right _ _⟩)
                  )
              )
            | (split at hx <;> first
                | (cases hx; done)
                | (cases hx; exact ⟨Nat.le_refl _, Nat.le_refl _⟩)
                | (cases hx; exact ⟨Nat.le_succ _, Nat.le_add_right _ _⟩)
                | (cases hx; exact ⟨Nat.le_add_right _ _, Nat.le_add_right _ _⟩)
                | (have hx := (mckO_some hx).2; first
                    | (cases hx; done)
                    | (cases hx; exact ⟨Nat.le_refl _, Nat.le_refl _⟩)
                    | (cases hx; exact ⟨Nat.le_succ _, Nat.le_add_right _ _⟩)
                    | (cases hx; exact ⟨Nat.le_add_right _ _, Nat.le_add_right _ _⟩)
                  )
                | (rcases mifO_some hx with ⟨_, hx⟩ | ⟨_, hx⟩ <;> first
                    | (cases hx; done)
                    | (cases hx; exact ⟨Nat.le_refl _, Nat.le_refl _⟩)
                    | (cases hx; exact ⟨Nat.le_succ _, Nat.le_add_right _ _⟩)
                    | (cases hx; exact ⟨Nat.le_add_right _ _, Nat.le_add_right _ _⟩)
                  )
                | (split at hx <;> first
                    | (cases hx; done)
                    | (cases hx; exact ⟨Nat.le_refl _, Nat.le_refl _⟩)
                    | (cases hx; exact ⟨Nat.le_succ _, Nat.le_add_right _ _⟩)
                    | (cases hx; exact ⟨Nat.le_add_right _ _, Nat.le_add_right _ _⟩)
                  )
              )
          )
        | (split at hx <;> first
            | (cases hx; done)
            | (cases hx; exact ⟨Nat.le_refl _, Nat.le_refl _⟩)
            | (cases hx; exact ⟨Nat.le_succ _, Nat.le_add_right _ _⟩)
            | (cases hx; exact ⟨Nat.le_add_right _ _, Nat.le_add_right _ _⟩)
            | (have hx := (mckO_some hx).2; first
                | (cases hx; done)
                | (cases hx; exact ⟨Nat.le_refl _, Nat.le_refl _⟩)
                | (cases hx; exact ⟨Nat.le_succ _, Nat.le_add_right _ _⟩)
                | (cases hx; exact ⟨Nat.le_add_right _ _, Nat.le_add_right _ _⟩)
                | (have hx := (mckO_some hx).2; first
                    | (cases hx; done)
                    | (cases hx; exact ⟨Nat.le_refl _, Nat.le_refl _⟩)
                    | (cases hx; exact ⟨Nat.le_succ _, Nat.le_add_right _ _⟩)
                    | (cases hx; exact ⟨Nat.le_add_right _ _, Nat.le_add_right _ _⟩)
                  )
                | (rcases mifO_some hx with ⟨_, hx⟩ | ⟨_, hx⟩ <;> first
                    | (cases hx; done)
                    | (cases hx; exact ⟨Nat.le_refl _, Nat.le_refl _⟩)
                    | (cases hx; exact ⟨Nat.le_succ _, Nat.le_add_right _ _⟩)
                    | (cases hx; exact ⟨Nat.le_add_right _ _, Nat.le_add_right _ _⟩)
                  )
                | (split at hx <;> first
                    | (cases hx; done)
                    | (cases hx; exact ⟨Nat.le_refl _, Nat.le_refl _⟩)
                    | (cases hx; exact ⟨Nat.le_succ _, Nat.le_add_right _ _⟩)
                    | (cases hx; exact ⟨Nat.le_add_right _ _, Nat.le_add_right _ _⟩)
                  )
              )
            | (rcases mifO_some hx with ⟨_, hx⟩ | ⟨_, hx⟩ <;> first
                | (cases hx; done)
                | (cases hx; exact ⟨Nat.le_refl _, Nat.le_refl _⟩)
                | (cases hx; exact ⟨Nat.le_succ _, Nat.le_add_right _ _⟩)
                | (cases hx; exact ⟨Nat.le_add_right _ _, Nat.le_add_right _ _⟩)
                | (have hx := (mckO_some hx).2; first
                    | (cases hx; done)
                    | (cases hx; exact ⟨Nat.le_refl _, Nat.le_refl _⟩)
                    | (cases hx; exact ⟨Nat.le_succ _, Nat.le_add_right _ _⟩)
                    | (cases hx; exact ⟨Nat.le_add_right _ _, Nat.le_add_right _ _⟩)
                  )
                | (rcases mifO_some hx with ⟨_, hx⟩ | ⟨_, hx⟩ <;> first
                    | (cases hx; done)
                    | (cases hx; exact ⟨Nat.le_refl _, Nat.le_refl _⟩)
                    | (cases hx; exact ⟨Nat.le_succ _, Nat.le_add_right _ _⟩)
                    | (cases hx; exact ⟨Nat.le_add_right _ _, Nat.le_add_right _ _⟩)
                  )
                | (split at hx <;> first
                    | (cases hx; done)
                    | (cases hx; exact ⟨Nat.le_refl _, Nat.le_refl _⟩)
                    | (cases hx; exact ⟨Nat.le_succ _, Nat.le_add_right _ _⟩)
                    | (cases hx; exact ⟨Nat.le_add_right _ _, Nat.le_add_right _ _⟩)
                  )
              )
            | (split at hx <;> first
                | (cases hx; done)
                | (cases hx; exact ⟨Nat.le_refl _, Nat.le_refl _⟩)
                | (cases hx; exact ⟨Nat.le_succ _, Nat.le_add_right _ _⟩)
                | (cases hx; exact ⟨Nat.le_add_right _ _, Nat.le_add_right _ _⟩)
                | (have hx := (mckO_some hx).2; first
                    | (cases hx; done)
                    | (cases hx; exact ⟨Nat.le_refl _, Nat.le_refl _⟩)
                    | (cases hx; exact ⟨Nat.le_succ _, Nat.le_add_right _ _⟩)
                    | (cases hx; exact ⟨Nat.le_add_right _ _, Nat.le_add_right _ _⟩)
                  )
                | (rcases mifO_some hx with ⟨_, hx⟩ | ⟨_, hx⟩ <;> first
                    | (cases hx; done)
                    | (cases hx; exact ⟨Nat.le_refl _, Nat.le_refl _⟩)
                    | (cases hx; exact ⟨Nat.le_succ _, Nat.le_add_right _ _⟩)
                    | (cases hx; exact ⟨Nat.le_add_right _ _, Nat.le_add_right _ _⟩)
                  )
                | (split at hx <;> first
                    | (cases hx; done)
                    | (cases hx; exact ⟨Nat.le_refl _, Nat.le_refl _⟩)
                    | (cases hx; exact ⟨Nat.le_succ _, Nat.le_add_right _ _⟩)
                    | (cases hx; exact ⟨Nat.le_add_right _ _, Nat.le_add_right _ _⟩)
                  )
              )
          )
      )
    | (rcases mifO_some hx with ⟨_, hx⟩ | ⟨_, hx⟩ <;> first
        | (cases hx; done)
        | (cases hx; exact ⟨Nat.le_refl _, Nat.le_refl _⟩)
        | (cases hx; exact ⟨Nat.le_succ _, Nat.le_add_right _ _⟩)
        | (cases hx; exact ⟨Nat.le_add_right _ _, Nat.le_add_right _ _⟩)
        | (have hx := (mckO_some hx).2; first
            | (cases hx; done)
            | (cases hx; exact ⟨Nat.le_refl _, Nat.le_refl _⟩)
            | (cases hx; exact ⟨Nat.le_succ _, Nat.le_add_right _ _⟩)
            | (cases hx; exact ⟨Nat.le_add_right _ _, Nat.le_add_right _ _⟩)
            | (have hx := (mckO_some hx).2; first
                | (cases hx; done)
                | (cases hx; exact ⟨Nat.le_refl _, Nat.le_refl _⟩)
                | (cases hx; exact ⟨Nat.le_succ _, Nat.le_add_right _ _⟩)
                | (cases hx; exact ⟨Nat.le_add_right _ _, Nat.le_add_right _ _⟩)
                | (have hx := (mckO_some hx).2; first
                    | (cases hx; done)
                    | (cases hx; exact ⟨Nat.le_refl _, Nat.le_refl _⟩)
                    | (cases hx; exact ⟨Nat.le_succ _, Nat.le_add_right _ _⟩)
                    | (cases hx; exact ⟨Nat.le_add_right _ _, Nat.le_add_right _ _⟩)
                  )
                | (rcases mifO_some hx with ⟨_, hx⟩ | ⟨_, hx⟩ <;> first
                    | (cases hx; done)
                    | (cases hx; exact ⟨Nat.le_refl _, Nat.le_refl _⟩)
                    | (cases hx; exact ⟨Nat.le_succ _, Nat.le_add_right _ _⟩)
                    | (cases hx; exact ⟨Nat.le_add_right _ _, Nat.le_add_right _ _⟩)
                  )
                | (split at hx <;> first
                    | (cases hx; done)
                    | (cases hx; exact ⟨Nat.le_refl _, Nat.le_refl _⟩)
                    | (cases hx; exact ⟨Nat.le_succ _, Nat.le_add_right _ _⟩)
                    | (cases hx; exact ⟨Nat.le_add_right _ _, Nat.le_add_right _ _⟩)
                  )
              )
            | (rcases mifO_some hx with ⟨_, hx⟩ | ⟨_, hx⟩ <;> first
                | (cases hx; done)
                | (cases hx; exact ⟨Nat.le_refl _, Nat.le_refl _⟩)
                | (cases hx; exact ⟨Nat.le_succ _, Nat.le_add_right _ _⟩)
                | (cases hx; exact ⟨Nat.le_add_right _ _, Nat.le_add_right _ _⟩)
                | (have hx := (mckO_some hx).2; first
                    | (cases hx; done)
                    | (cases hx; exact ⟨Nat.le_refl _, Nat.le_refl _⟩)
                    | (cases hx; exact ⟨Nat.le_succ _, Nat.le_add_right _ _⟩)
                    | (cases hx; exact ⟨Nat.le_add_right _ _, Nat.le_add_right _ _⟩)
                  )
                | (rcases mifO_some hx with ⟨_, hx⟩ | ⟨_, hx⟩ <;> first
                    | (cases hx; done)
                    | (cases hx; exact ⟨Nat.le_refl _, Nat.le_refl _⟩)
                    | (cases hx; exact ⟨Nat.le_succ _, Nat.le_add_right _ _⟩)
                    | (cases hx; exact ⟨Nat.le_add_right _ _, Nat.le_add_right _ _⟩)
                  )
                | (split at hx <;> first
                    | (cases hx; done)
                    | (cases hx; exact ⟨Nat.le_refl _, Nat.le_refl _⟩)
                    | (cases hx; exact ⟨Nat.le_succ _, Nat.le_add_right _ _⟩)
                    | (cases hx; exact ⟨Nat.le_add_right _ _, Nat.le_add_right _ _⟩)
                  )
              )
            | (split at hx <;> first
                | (cases hx; done)
                | (cases hx; exact ⟨Nat.le_refl _, Nat.le_refl _⟩)
                | (cases hx; exact ⟨Nat.le_succ _, Nat.le_add_right _ _⟩)
                | (cases hx; exact ⟨Nat.le_add_right _ _, Nat.le_add_right _ _⟩)
                | (have hx := (mckO_some hx).2; first
                    | (cases hx; done)
                    | (cases hx; exact ⟨Nat.le_refl _, Nat.le_refl _⟩)
                    | (cases hx; exact ⟨Nat.le_succ _, Nat.le_add_right _ _⟩)
                    | (cases hx; exact ⟨Nat.le_add_right _ _, Nat.le_add_right _ _⟩)
                  )
                | (rcases mifO_some hx with ⟨_, hx⟩ | ⟨_, hx⟩ <;> first
                    | (cases hx; done)
                    | (cases hx; exact ⟨Nat.le_refl _, Nat.le_refl _⟩)
                    | (cases hx; exact ⟨Nat.le_succ _, Nat.le_add_right _ _⟩)
                    | (cases hx; exact ⟨Nat.le_add_right _ _, Nat.le_add_right _ _⟩)
                  )
                | (split at hx <;> first
                    | (cases hx; done)
                    | (cases hx; exact ⟨Nat.le_refl _, Nat.le_refl _⟩)
                    | (cases hx; exact ⟨Nat.le_succ _, Nat.le_add_right _ _⟩)
                    | (cases hx; exact ⟨Nat.le_add_right _ _, Nat.le_add_right _ _⟩)
                  )
              )
          )
        | (rcases mifO_some hx with ⟨_, hx⟩ | ⟨_, hx⟩ <;> first
            | (cases hx; done)
            | (cases hx; exact ⟨Nat.le_refl _, Nat.le_refl _⟩)
            | (cases hx; exact ⟨Nat.le_succ _, Nat.le_add_right _ _⟩)
            | (cases hx; exact ⟨Nat.le_add_right _ _, Nat.le_add_right _ _⟩)
            | (have hx := (mckO_some hx).2; first
                | (cases hx; done)
                | (cases hx; exact ⟨Nat.le_refl _, Nat.le_refl _⟩)
                | (cases hx; exact ⟨Nat.le_succ _, Nat.le_add_right _ _⟩)
                | (cases hx; exact ⟨Nat.le_add_right _ _, Nat.le_add_right _ _⟩)
                | (have hx := (mckO_some hx).2; first
                    | (cases hx; done)
                    | (cases hx; exact ⟨Nat.le_refl _, Nat.le_refl _⟩)
                    | (cases hx; exact ⟨Nat.le_succ _, Nat.le_add_right _ _⟩)
                    | (cases hx; exact ⟨Nat.le_add_right _ _, Nat.le_add_right _ _⟩)
                  )
                | (rcases mifO_some hx with ⟨_, hx⟩ | ⟨_, hx⟩ <;> first
                    | (cases hx; done)
                    | (cases hx; exact ⟨Nat.le_refl _, Nat.le_refl _⟩)
                    | (cases hx; exact ⟨Nat.le_succ _, Nat.le_add_right _ _⟩)
                    | (cases hx; exact ⟨Nat.le_add_right _ _, Nat.le_add_right _ _⟩)
                  )
                | (split at hx <;> first
                    | (cases hx; done)
                    | (cases hx; exact ⟨Nat.le_refl _, Nat.le_refl _⟩)
                    | (cases hx; exact ⟨Nat.le_succ _, Nat.le_add_right _ _⟩)
                    | (cases hx; exact ⟨Nat.le_add_right _ _, Nat.le_add_right _ _⟩)
                  )
              )
            | (rcases mifO_some hx with ⟨_, hx⟩ | ⟨_, hx⟩ <;> first
                | (cases hx; done)
                | (cases hx; exact ⟨Nat.le_refl _, Nat.le_refl _⟩)
                | (cases hx; exact ⟨Nat.le_succ _, Nat.le_add_right _ _⟩)
                | (cases hx; exact ⟨Nat.le_add_right _ _, Nat.le_add_right _ _⟩)
                | (have hx := (mckO_some hx).2; first
                    | (cases hx; done)
                    | (cases hx; exact ⟨Nat.le_refl _, Nat.le_refl _⟩)
                    | (cases hx; exact ⟨Nat.le_succ _, Nat.le_add_right _ _⟩)
                    | (cases hx; exact ⟨Nat.le_add_right _ _, Nat.le_add_right _ _⟩)
                  )
                | (rcases mifO_some hx with ⟨_, hx⟩ | ⟨_, hx⟩ <;> first
                    | (cases hx; done)
                    | (cases hx; exact ⟨Nat.le_refl _, Nat.le_refl _⟩)
                    | (cases hx; exact ⟨Nat.le_succ _, Nat.le_add_right _ _⟩)
                    | (cases hx; exact ⟨Nat.le_add_right _ _, Nat.le_add_right _ _⟩)
                  )
                | (split at hx <;> first
                    | (cases hx; done)
                    | (cases hx; exact ⟨Nat.le_refl _, Nat.le_refl _⟩)
                    | (cases hx; exact ⟨Nat.le_succ _, Nat.le_add_right _ _⟩)
                    | (cases hx; exact ⟨Nat.le_add_right _ _, Nat.le_add_right _ _⟩)
                  )
              )
            | (split at hx <;> first
                | (cases hx; done)
                | (cases hx; exact ⟨Nat.le_refl _, Nat.le_refl _⟩)
                | (cases hx; exact ⟨Nat.le_succ _, Nat.le_add_right _ _⟩)
                | (cases hx; exact ⟨Nat.le_add_right _ _, Nat.le_add_right _ _⟩)
                | (have hx := (mckO_some hx).2; first
                    | (cases hx; done)
                    | (cases hx; exact ⟨Nat.le_refl _, Nat.le_refl _⟩)
                    | (cases hx; exact ⟨Nat.le_succ _, Nat.le_add_right _ _⟩)
                    | (cases hx; exact ⟨Nat.le_add_right _ _, Nat.le_add_right _ _⟩)
                  )
                | (rcases mifO_some hx with ⟨_, hx⟩ | ⟨_, hx⟩ <;> first
                    | (cases hx; done)
                    | (cases hx; exact ⟨Nat.le_refl _, Nat.le_refl _⟩)
                    | (cases hx; exact ⟨Nat.le_succ _, Nat.le_add_right _ _⟩)
                    | (cases hx; exact ⟨Nat.le_add_right _ _, Nat.le_add_right _ _⟩)
                  )
                | (split at hx <;> first
                    | (cases hx; done)
                    | (cases hx; exact ⟨Nat.le_refl _, Nat.le_refl _⟩)
                    | (cases hx; exact ⟨Nat.le_succ _, Nat.le_add_right _ _⟩)
                    | (cases hx; exact ⟨Nat.le_add_right _ _, Nat.le_add_right _ _⟩)
                  )
              )
          )
        | (split at hx <;> first
            | (cases hx; done)
            | (cases hx; exact ⟨Nat.le_refl _, Nat.le_refl _⟩)
            | (cases hx; exact ⟨Nat.le_succ _, Nat.le_add_right _ _⟩)
            | (cases hx; exact ⟨Nat.le_add_right _ _, Nat.le_add_right _ _⟩)
            | (have hx := (mckO_some hx).2; first
                | (cases hx; done)
                | (cases hx; exact ⟨Nat.le_refl _, Nat.le_refl _⟩)
                | (cases hx; exact ⟨Nat.le_succ _, Nat.le_add_right _ _⟩)
                | (cases hx; exact ⟨Nat.le_add_right _ _, Nat.le_add_right _ _⟩)
                | (have hx := (mckO_some hx).2; first
                    | (cases hx; done)
                    | (cases hx; exact ⟨Nat.le_refl _, Nat.le_refl _⟩)
                    | (cases hx; exact ⟨Nat.le_succ _, Nat.le_add_right _ _⟩)
                    | (cases hx; exact ⟨Nat.le_add_right _ _, Nat.le_add_right _ _⟩)
                  )
                | (rcases mifO_some hx with ⟨_, hx⟩ | ⟨_, hx⟩ <;> first
                    | (cases hx; done)
                    | (cases hx; exact ⟨Nat.le_refl _, Nat.le_refl _⟩)
                    | (cases hx; exact ⟨Nat.le_succ _, Nat.le_add_right _ _⟩)
                    | (cases hx; exact ⟨Nat.le_add_right _ _, Nat.le_add_right _ _⟩)
                  )
                | (split at hx <;> first
                    | (cases hx; done)
                    | (cases hx; exact ⟨Nat.le_refl _, Nat.le_refl _⟩)
                    | (cases hx; exact ⟨Nat.le_succ _, Nat.le_add_right _ _⟩)
                    | (cases hx; exact ⟨Nat.le_add_right _ _, Nat.le_add_right _ _⟩)
                  )
              )
            | (rcases mifO_some hx with ⟨_, hx⟩ | ⟨_, hx⟩ <;> first
                | (cases hx; done)
                | (cases hx; exact ⟨Nat.le_refl _, Nat.le_refl _⟩)
                | (cases hx; exact ⟨Nat.le_succ _, Nat.le_add_right _ _⟩)
                | (cases hx; exact ⟨Nat.le_add_right _ _, Nat.le_add_right _ _⟩)
                | (have hx := (mckO_some hx).2; first
                    | (cases hx; done)
                    | (cases hx; exact ⟨Nat.le_refl _, Nat.le_refl _⟩)
                    | (cases hx; exact ⟨Nat.le_succ _, Nat.le_add_right _ _⟩)
                    | (cases hx; exact ⟨Nat.le_add_right _ _, Nat.le_add_right _ _⟩)
                  )
                | (rcases mifO_some hx with ⟨_, hx⟩ | ⟨_, hx⟩ <;> first
                    | (cases hx; done)
                    | (cases hx; exact ⟨Nat.le_refl _, Nat.le_refl _⟩)
                    | (cases hx; exact ⟨Nat.le_succ _, Nat.le_add_right _ _⟩)
                    | (cases hx; exact ⟨Nat.le_add_right _ _, Nat.le_add_right _ _⟩)
                  )
                | (split at hx <;> first
                    | (cases hx; done)
                    | (cases hx; exact ⟨Nat.le_refl _, Nat.le_refl _⟩)
                    | (cases hx; exact ⟨Nat.le_succ _, Nat.le_add_right _ _⟩)
                    | (cases hx; exact ⟨Nat.le_add_right _ _, Nat.le_add_right _ _⟩)
                  )
              )
            | (split at hx <;> first
                | (cases hx; done)
                | (cases hx; exact ⟨Nat.le_refl _, Nat.le_refl _⟩)
                | (cases hx; exact ⟨Nat.le_succ _, Nat.le_add_right _ _⟩)
                | (cases hx; exact ⟨Nat.le_add_right _ _, Nat.le_add_right _ _⟩)
                | (have hx := (mckO_some hx).2; first
                    | (cases hx; done)
                    | (cases hx; exact ⟨Nat.le_refl _, Nat.le_refl _⟩)
                    | (cases hx; exact ⟨Nat.le_succ _, Nat.le_add_right _ _⟩)
                    | (cases hx; exact ⟨Nat.le_add_right _ _, Nat.le_add_right _ _⟩)
                  )
                | (rcases mifO_some hx with ⟨_, hx⟩ | ⟨_, hx⟩ <;> first
                    | (cases hx; done)
                    | (cases hx; exact ⟨Nat.le_refl _, Nat.le_refl _⟩)
                    | (cases hx; exact ⟨Nat.le_succ _, Nat.le_add_right _ _⟩)
                    | (cases hx; exact ⟨Nat.le_add_right _ _, Nat.le_add_right _ _⟩)
                  )
                | (split at hx <;> first
                    | (cases hx; done)
                    | (cases hx; exact ⟨Nat.le_refl _, Nat.le_refl _⟩)
                    | (cases hx; exact ⟨Nat.le_succ _, Nat.le_add_right _ _⟩)
                    | (cases hx; exact ⟨Nat.le_add_right _ _, Nat.le_add_right _ _⟩)
                  )
              )
          )
      )
    | (split at hx <;> first
        | (cases hx; done)
        | (cases hx; exact ⟨Nat.le_refl _, Nat.le_refl _⟩)
        | (cases hx; exact ⟨Nat.le_succ _, Nat.le_add_right _ _⟩)
        | (cases hx; exact ⟨Nat.le_add_right _ _, Nat.le_add_right _ _⟩)
        | (have hx := (mckO_some hx).2; first
            | (cases hx; done)
            | (cases hx; exact ⟨Nat.le_refl _, Nat.le_refl _⟩)
            | (cases hx; exact ⟨Nat.le_succ _, Nat.le_add_right _ _⟩)
            | (cases hx; exact ⟨Nat.le_add_right _ _, Nat.le_add_right _ _⟩)
            | (have hx := (mckO_some hx).2; first
                | (cases hx; done)
                | (cases hx; exact ⟨Nat.le_refl _, Nat.le_refl _⟩)
                | (cases hx; exact ⟨Nat.le_succ _, Nat.le_add_right _ _⟩)
                | (cases hx; exact ⟨Nat.le_add_right _ _, Nat.le_add_right _ _⟩)
                | (have hx := (mckO_some hx).2; first
                    | (cases hx; done)
                    | (cases hx; exact ⟨Nat.le_refl _, Nat.le_refl _⟩)
                    | (cases hx; exact ⟨Nat.le_succ _, Nat.le_add_right _ _⟩)
                    | (cases hx; exact ⟨Nat.le_add_right _ _, Nat.le_add_right _ _⟩)
                  )
                | (rcases mifO_some hx with ⟨_, hx⟩ | ⟨_, hx⟩ <;> first
                    | (cases hx; done)
                    | (cases hx; exact ⟨Nat.le_refl _, Nat.le_refl _⟩)
                    | (cases hx; exact ⟨Nat.le_succ _, Nat.le_add_right _ _⟩)
                    | (cases hx; exact ⟨Nat.le_add_right _ _, Nat.le_add_right _ _⟩)
                  )
                | (split at hx <;> first
                    | (cases hx; done)
                    | (cases hx; exact ⟨Nat.le_refl _, Nat.le_refl _⟩)
                    | (cases hx; exact ⟨Nat.le_succ _, Nat.le_add_right _ _⟩)
                    | (cases hx; exact ⟨Nat.le_add_right _ _, Nat.le_add_right _ _⟩)
                  )
              )
            | (rcases mifO_some hx with ⟨_, hx⟩ | ⟨_, hx⟩ <;> first
                | (cases hx; done)
                | (cases hx; exact ⟨Nat.le_refl _, Nat.le_refl _⟩)
                | (cases hx; exact ⟨Nat.le_succ _, Nat.le_add_right _ _⟩)
                | (cases hx; exact ⟨Nat.le_add_right _ _, Nat.le_add_right _ _⟩)
                | (have hx := (mckO_some hx).2; first
                    | (cases hx; done)
                    | (cases hx; exact ⟨Nat.le_refl _, Nat.le_refl _⟩)
                    | (cases hx; exact ⟨Nat.le_succ _, Nat.le_add_right _ _⟩)
                    | (cases hx; exact ⟨Nat.le_add_right _ _, Nat.le_add_right _ _⟩)
                  )
                | (rcases mifO_some hx with ⟨_, hx⟩ | ⟨_, hx⟩ <;> first
                    | (cases hx; done)
                    | (cases hx; exact ⟨Nat.le_refl _, Nat.le_refl _⟩)
                    | (cases hx; exact ⟨Nat.le_succ _, Nat.le_add_right _ _⟩)
                    | (cases hx; exact ⟨Nat.le_add_right _ _, Nat.le_add_right _ _⟩)
                  )
                | (split at hx <;> first
                    | (cases hx; done)
                    | (cases hx; exact ⟨Nat.le_refl _, Nat.le_refl _⟩)
                    | (cases hx; exact ⟨Nat.le_succ _, Nat.le_add_right _ _⟩)
                    | (cases hx; exact ⟨Nat.le_add_right _ _, Nat.le_add_right _ _⟩)
                  )
              )
            | (split at hx <;> first
                | (cases hx; done)
                | (cases hx; exact ⟨Nat.le_refl _, Nat.le_refl _⟩)
                | (cases hx; exact ⟨Nat.le_succ _, Nat.le_add_right _ _⟩)
                | (cases hx; exact ⟨Nat.le_add_right _ _, Nat.le_add_right _ _⟩)
                | (have hx := (mckO_some hx).2; first
                    | (cases hx; done)
                    | (cases hx; exact ⟨Nat.le_refl _, Nat.le_refl _⟩)
                    | (cases hx; exact ⟨Nat.le_succ _, Nat.le_add_right _ _⟩)
                    | (cases hx; exact ⟨Nat.le_add_right _ _, Nat.le_add_right _ _⟩)
                  )
                | (rcases mifO_some hx with ⟨_, hx⟩ | ⟨_, hx⟩ <;> first
                    | (cases hx; done)
                    | (cases hx; exact ⟨Nat.le_refl _, Nat.le_refl _⟩)
                    | (cases hx; exact ⟨Nat.le_succ _, Nat.le_add_right _ _⟩)
                    | (cases hx; exact ⟨Nat.le_add_right _ _, Nat.le_add_right _ _⟩)
                  )
                | (split at hx <;> first
                    | (cases hx; done)
                    | (cases hx; exact ⟨Nat.le_refl _, Nat.le_refl _⟩)
                    | (cases hx; exact ⟨Nat.le_succ _, Nat.le_add_right _ _⟩)
                    | (cases hx; exact ⟨Nat.le_add_right _ _, Nat.le_add_right _ _⟩)
                  )
              )
          )
        | (rcases mifO_some hx with ⟨_, hx⟩ | ⟨_, hx⟩ <;> first
            | (cases hx; done)
            | (cases hx; exact ⟨Nat.le_refl _, Nat.le_refl _⟩)
            | (cases hx; exact ⟨Nat.le_succ _, Nat.le_add_right _ _⟩)
            | (cases hx; exact ⟨Nat.le_add_right _ _, Nat.le_add_right _ _⟩)
            | (have hx := (mckO_some hx).2; first
                | (cases hx; done)
                | (cases hx; exact ⟨Nat.le_refl _, Nat.le_refl _⟩)
                | (cases hx; exact ⟨Nat.le_succ _, Nat.le_add_right _ _⟩)
                | (cases hx; exact ⟨Nat.le_add_right _ _, Nat.le_add_right _ _⟩)
                | (have hx := (mckO_some hx).2; first
                    | (cases hx; done)
                    | (cases hx; exact ⟨Nat.le_refl _, Nat.le_refl _⟩)
                    | (cases hx; exact ⟨Nat.le_succ _, Nat.le_add_right _ _⟩)
                    | (cases hx; exact ⟨Nat.le_add_right _ _, Nat.le_add_right _ _⟩)
                  )
                | (rcases mifO_some hx with ⟨_, hx⟩ | ⟨_, hx⟩ <;> first
                    | (cases hx; done)
                    | (cases hx; exact ⟨Nat.le_refl _, Nat.le_refl _⟩)
                    | (cases hx; exact ⟨Nat.le_succ _, Nat.le_add_right _ _⟩)
                    | (cases hx; exact ⟨Nat.le_add_right _ _, Nat.le_add_right _ _⟩)
                  )
                | (split at hx <;> first
                    | (cases hx; done)
                    | (cases hx; exact ⟨Nat.le_refl _, Nat.le_refl _⟩)
                    | (cases hx; exact ⟨Nat.le_succ _, Nat.le_add_right _ _⟩)
                    | (cases hx; exact ⟨Nat.le_add_right _ _, Nat.le_add_right _ _⟩)
                  )
              )
            | (rcases mifO_some hx with ⟨_, hx⟩ | ⟨_, hx⟩ <;> first
                | (cases hx; done)
                | (cases hx; exact ⟨Nat.le_refl _, Nat.le_refl _⟩)
                | (cases hx; exact ⟨Nat.le_succ _, Nat.le_add_right _ _⟩)
                | (cases hx; exact ⟨Nat.le_add_right _ _, Nat.le_add_right _ _⟩)
                | (have hx := (mckO_some hx).2; first
                    | (cases hx; done)
                    | (cases hx; exact ⟨Nat.le_refl _, Nat.le_refl _⟩)
                    | (cases hx; exact ⟨Nat.le_succ _, Nat.le_add_right _ _⟩)
                    | (cases hx; exact ⟨Nat.le_add_right _ _, Nat.le_add_right _ _⟩)
                  )
                | (rcases mifO_some hx with ⟨_, hx⟩ | ⟨_, hx⟩ <;> first
                    | (cases hx; done)
                    | (cases hx; exact ⟨Nat.le_refl _, Nat.le_refl _⟩)
                    | (cases hx; exact ⟨Nat.le_succ _, Nat.le_add_right _ _⟩)
                    | (cases hx; exact ⟨Nat.le_add_right _ _, Nat.le_add_right _ _⟩)
                  )
                | (split at hx <;> first
                    | (cases hx; done)
                    | (cases hx; exact ⟨Nat.le_refl _, Nat.le_refl _⟩)
                    | (cases hx; exact ⟨Nat.le_succ _, Nat.le_add_right _ _⟩)
                    | (cases hx; exact ⟨Nat.le_add_right _ _, Nat.le_add_right _ _⟩)
                  )
              )
            | (split at hx <;> first
                | (cases hx; done)
                | (cases hx; exact ⟨Nat.le_refl _, Nat.le_refl _⟩)
                | (cases hx; exact ⟨Nat.le_succ _, Nat.le_add_right _ _⟩)
                | (cases hx; exact ⟨Nat.le_add_right _ _, Nat.le_add_right _ _⟩)
                | (have hx := (mckO_some hx).2; first
                    | (cases hx; done)
                    | (cases hx; exact ⟨Nat.le_refl _, Nat.le_refl _⟩)
                    | (cases hx; exact ⟨Nat.le_succ _, Nat.le_add_right _ _⟩)
                    | (cases hx; exact ⟨Nat.le_add_right _ _, Nat.le_add_right _ _⟩)
                  )
                | (rcases mifO_some hx with ⟨_, hx⟩ | ⟨_, hx⟩ <;> first
                    | (cases hx; done)
                    | (cases hx; exact ⟨Nat.le_refl _, Nat.le_refl _⟩)
                    | (cases hx; exact ⟨Nat.le_succ _, Nat.le_add_right _ _⟩)
                    | (cases hx; exact ⟨Nat.le_add_right _ _, Nat.le_add_right _ _⟩)
                  )
                | (split at hx <;> first
                    | (cases hx; done)
                    | (cases hx; exact ⟨Nat.le_refl _, Nat.le_refl _⟩)
                    | (cases hx; exact ⟨Nat.le_succ _, Nat.le_add_right _ _⟩)
                    | (cases hx; exact ⟨Nat.le_add_right _ _, Nat.le_add_right _ _⟩)
                  )
              )
          )
        | (split at hx <;> first
            | (cases hx; done)
            | (cases hx; exact ⟨Nat.le_refl _, Nat.le_refl _⟩)
            | (cases hx; exact ⟨Nat.le_succ _, Nat.le_add_right _ _⟩)
            | (cases hx; exact ⟨Nat.le_add_right _ _, Nat.le_add_right _ _⟩)
            | (have hx := (mckO_some hx).2; first
                | (cases hx; done)
                | (cases hx; exact ⟨Nat.le_refl _, Nat.le_refl _⟩)
                | (cases hx; exact ⟨Nat.le_succ _, Nat.le_add_right _ _⟩)
                | (cases hx; exact ⟨Nat.le_add_right _ _, Nat.le_add_right _ _⟩)
                | (have hx := (mckO_some hx).2; first
                    | (cases hx; done)
                    | (cases hx; exact ⟨Nat.le_refl _, Nat.le_refl _⟩)
                    | (cases hx; exact ⟨Nat.le_succ _, Nat.le_add_right _ _⟩)
                    | (cases hx; exact ⟨Nat.le_add_right _ _, Nat.le_add_right _ _⟩)
                  )
                | (rcases mifO_some hx with ⟨_, hx⟩ | ⟨_, hx⟩ <;> first
                    | (cases hx; done)
                    | (cases hx; exact ⟨Nat.le_refl _, Nat.le_refl _⟩)
                    | (cases hx; exact ⟨Nat.le_succ _, Nat.le_add_right _ _⟩)
                    | (cases hx; exact ⟨Nat.le_add_right _ _, Nat.le_add_right _ _⟩)
                  )
                | (split at hx <;> first
                    | (cases hx; done)
                    | (cases hx; exact ⟨Nat.le_refl _, Nat.le_refl _⟩)
                    | (cases hx; exact ⟨Nat.le_succ _, Nat.le_add_right _ _⟩)
                    | (cases hx; exact ⟨Nat.le_add_right _ _, Nat.le_add_right _ _⟩)
                  )
              )
            | (rcases mifO_some hx with ⟨_, hx⟩ | ⟨_, hx⟩ <;> first
                | (cases hx; done)
                | (cases hx; exact ⟨Nat.le_refl _, Nat.le_refl _⟩)
                | (cases hx; exact ⟨Nat.le_succ _, Nat.le_add_right _ _⟩)
                | (cases hx; exact ⟨Nat.le_add_right _ _, Nat.le_add_right _ _⟩)
                | (have hx := (mckO_some hx).2; first
                    | (cases hx; done)
                    | (cases hx; exact ⟨Nat.le_refl _, Nat.le_refl _⟩)
                    | (cases hx; exact ⟨Nat.le_succ _, Nat.le_add_right _ _⟩)
                    | (cases hx; exact ⟨Nat.le_add_right _ _, Nat.le_add_right _ _⟩)
                  )
                | (rcases mifO_some hx with ⟨_, hx⟩ | ⟨_, hx⟩ <;> first
                    | (cases hx; done)
                    | (cases hx; exact ⟨Nat.le_refl _, Nat.le_refl _⟩)
                    | (cases hx; exact ⟨Nat.le_succ _, Nat.le_add_right _ _⟩)
                    | (cases hx; exact ⟨Nat.le_add_right _ _, Nat.le_add_right _ _⟩)
                  )
                | (split at hx <;> first
                    | (cases hx; done)
                    | (cases hx; exact ⟨Nat.le_refl _, Nat.le_refl _⟩)
                    | (cases hx; exact ⟨Nat.le_succ _, Nat.le_add_right _ _⟩)
                    | (cases hx; exact ⟨Nat.le_add_right _ _, Nat.le_add_right _ _⟩)
                  )
              )
            | (split at hx <;> first
                | (cases hx; done)
                | (cases hx; exact ⟨Nat.le_refl _, Nat.le_refl _⟩)
                | (cases hx; exact ⟨Nat.le_succ _, Nat.le_add_right _ _⟩)
                | (cases hx; exact ⟨Nat.le_add_right _ _, Nat.le_add_right _ _⟩)
                | (have hx := (mckO_some hx).2; first
                    | (cases hx; done)
                    | (cases hx; exact ⟨Nat.le_refl _, Nat.le_refl _⟩)
                    | (cases hx; exact ⟨Nat.le_succ _, Nat.le_add_right _ _⟩)
                    | (cases hx; exact ⟨Nat.le_add_right _ _, Nat.le_add_right _ _⟩)
                  )
                | (rcases mifO_some hx with ⟨_, hx⟩ | ⟨_, hx⟩ <;> first
                    | (cases hx; done)
                    | (cases hx; exact ⟨Nat.le_refl _, Nat.le_refl _⟩)
                    | (cases hx; exact ⟨Nat.le_succ _, Nat.le_add_right _ _⟩)
                    | (cases hx; exact ⟨Nat.le_add_right _ _, Nat.le_add_right _ _⟩)
                  )
                | (split at hx <;> first
                    | (cases hx; done)
                    | (cases hx; exact ⟨Nat.le_refl _, Nat.le_refl _⟩)
                    | (cases hx; exact ⟨Nat.le_succ _, Nat.le_add_right _ _⟩)
                    | (cases hx; exact ⟨Nat.le_add_right _ _, Nat.le_add_right _ _⟩)
                  )
              )
          )
      )
    | skip
  all_goals done
set_option maxRecDepth 100000 in
set_option maxHeartbeats 8000000 in
theorem mxS_ge {own y i k : Nat} {as : List mV} {pc : Nat} {lo : mLo} {st : mSt} {h : mH} {x : mS} (hx : mxSF own y i k as pc lo st h = some x) : mGe h x := by
  unfold mxSF at hx
  split at hx
  all_goals first
    | (cases hx; done)
    | (cases hx; exact ⟨Nat.le_refl _, Nat.le_refl _⟩)
    | (cases hx; exact ⟨Nat.le_succ _, Nat.le_add_right _ _⟩)
    | (cases hx; exact ⟨Nat.le_add_right _ _, Nat.le_add_right _ _⟩)
    | (have hx := (mckO_some hx).2; first
        | (cases hx; done)
        | (cases hx; exact ⟨Nat.le_refl _, Nat.le_refl _⟩)
        | (cases hx; exact ⟨Nat.le_succ _, Nat.le_add_right _ _⟩)
        | (cases hx; exact ⟨Nat.le_add_right _ _, Nat.le_add_right _ _⟩)
        | (have hx := (mckO_some hx).2; first
            | (cases hx; done)
            | (cases hx; exact ⟨Nat.le_refl _, Nat.le_refl _⟩)
            | (cases hx; exact ⟨Nat.le_succ _, Nat.le_add_right _ _⟩)
            | (cases hx; exact ⟨Nat.le_add_right _ _, Nat.le_add_right _ _⟩)
            | (have hx := (mckO_some hx).2; first
                | (cases hx; done)
                | (cases hx; exact ⟨Nat.le_refl _, Nat.le_refl _⟩)
                | (cases hx; exact ⟨Nat.le_succ _, Nat.le_add_right _ _⟩)
                | (cases hx; exact ⟨Nat.le_add_right _ _, Nat.le_add_right _ _⟩)
                | (have hx := (mckO_some hx).2; first
                    | (cases hx; done)
                    | (cases hx; exact ⟨Nat.le_refl _, Nat.le_refl _⟩)
                    | (cases hx; exact ⟨Nat.le_succ _, Nat.le_add_right _ _⟩)
                    | (cases hx; exact ⟨Nat.le_add_right _ _, Nat.le_add_right _ _⟩)
                  )
                | (rcases mifO_some hx with ⟨_, hx⟩ | ⟨_, hx⟩ <;> first
                    | (cases hx; done)
                    | (cases hx; exact ⟨Nat.le_refl _, Nat.le_refl _⟩)
                    | (cases hx; exact ⟨Nat.le_succ _, Nat.le_add_right _ _⟩)
                    | (cases hx; exact ⟨Nat.le_add_right _ _, Nat.le_add_right _ _⟩)
                  )
                | (split at hx <;> first
                    | (cases hx; done)
                    | (cases hx; exact ⟨Nat.le_refl _, Nat.le_refl _⟩)
                    | (cases hx; exact ⟨Nat.le_succ _, Nat.le_add_right _ _⟩)
                    | (cases hx; exact ⟨Nat.le_add_right _ _, Nat.le_add_right _ _⟩)
                  )
              )
            | (rcases mifO_some hx with ⟨_, hx⟩ | ⟨_, hx⟩ <;> first
                | (cases hx; done)
                | (cases hx; exact ⟨Nat.le_refl _, Nat.le_refl _⟩)
                | (cases hx; exact ⟨Nat.le_succ _, Nat.le_add_right _ _⟩)
                | (cases hx; exact ⟨Nat.le_add_right _ _, Nat.le_add_right _ _⟩)
                | (have hx := (mckO_some hx).2; first
                    | (cases hx; done)
                    | (cases hx; exact ⟨Nat.le_refl _, Nat.le_refl _⟩)
                    | (cases hx; exact ⟨Nat.le_succ _, Nat.le_add_right _ _⟩)
                    | (cases hx; exact ⟨Nat.le_add_right _ _, Nat.le_add_right _ _⟩)
                  )
                | (rcases mifO_some hx with ⟨_, hx⟩ | ⟨_, hx⟩ <;> first
                    | (cases hx; done)
                    | (cases hx; exact ⟨Nat.le_refl _, Nat.le_refl _⟩)
                    | (cases hx; exact ⟨Nat.le_succ _, Nat.le_add_right _ _⟩)
                    | (cases hx; exact ⟨Nat.le_add_right _ _, Nat.le_add_right _ _⟩)
                  )
                | (split at hx <;> first
                    | (cases hx; done)
                    | (cases hx; exact ⟨Nat.le_refl _, Nat.le_refl _⟩)
                    | (cases hx; exact ⟨Nat.le_succ _, Nat.le_add_right _ _⟩)
                    | (cases hx; exact ⟨Nat.le_add_right _ _, Nat.le_add_right _ _⟩)
                  )
              )
            | (split at hx <;> first
                | (cases hx; done)
                | (cases hx; exact ⟨Nat.le_refl _, Nat.le_refl _⟩)
                | (cases hx; exact ⟨Nat.le_succ _, Nat.le_add_right _ _⟩)
                | (cases hx; exact ⟨Nat.le_add_right _ _, Nat.le_add_right _ _⟩)
                | (have hx := (mckO_some hx).2; first
                    | (cases hx; done)
                    | (cases hx; exact ⟨Nat.le_refl _, Nat.le_refl _⟩)
                    | (cases hx; exact ⟨Nat.le_succ _, Nat.le_add_right _ _⟩)
                    | (cases hx; exact ⟨Nat.le_add_right _ _, Nat.le_add_right _ _⟩)
                  )
                | (rcases mifO_some hx with ⟨_, hx⟩ | ⟨_, hx⟩ <;> first
                    | (cases hx; done)
                    | (cases hx; exact ⟨Nat.le_refl _, Nat.le_refl _⟩)
                    | (cases hx; exact ⟨Nat.le_succ _, Nat.le_add_right _ _⟩)
                    | (cases hx; exact ⟨Nat.le_add_right _ _, Nat.le_add_right _ _⟩)
                  )
                | (split at hx <;> first
                    | (cases hx; done)
                    | (cases hx; exact ⟨Nat.le_refl _, Nat.le_refl _⟩)
                    | (cases hx; exact ⟨Nat.le_succ _, Nat.le_add_right _ _⟩)
                    | (cases hx; exact ⟨Nat.le_add_right _ _, Nat.le_add_right _ _⟩)
                  )
              )
          )
        | (rcases mifO_some hx with ⟨_, hx⟩ | ⟨_, hx⟩ <;> first
            | (cases hx; done)
            | (cases hx; exact ⟨Nat.le_refl _, Nat.le_refl _⟩)
            | (cases hx; exact ⟨Nat.le_succ _, Nat.le_add_right _ _⟩)
            | (cases hx; exact ⟨Nat.le_add_right _ _, Nat.le_add_right _ _⟩)
            | (have hx := (mckO_some hx).2; first
                | (cases hx; done)
                | (cases hx; exact ⟨Nat.le_refl _, Nat.le_refl _⟩)
                | (cases hx; exact ⟨Nat.le_succ _, Nat.le_add_right _ _⟩)
                | (cases hx; exact ⟨Nat.le_add_right _ _, Nat.le_add_right _ _⟩)
                | (have hx := (mckO_some hx).2; first
                    | (cases hx; done)
                    | (cases hx; exact ⟨Nat.le_refl _, Nat.le_refl _⟩)
                    | (cases hx; exact ⟨Nat.le_succ _, Nat.le_add_right _ _⟩)
                    | (cases hx; exact ⟨Nat.le_add_right _ _, Nat.le_add_right _ _⟩)
                  )
                | (rcases mifO_some hx with ⟨_, hx⟩ | ⟨_, hx⟩ <;> first
                    | (cases hx; done)
                    | (cases hx; exact ⟨Nat.le_refl _, Nat.le_refl _⟩)
                    | (cases hx; exact ⟨Nat.le_succ _, Nat.le_add_right _ _⟩)
                    | (cases hx; exact ⟨Nat.le_add_right _ _, Nat.le_add_right _ _⟩)
                  )
                | (split at hx <;> first
                    | (cases hx; done)
                    | (cases hx; exact ⟨Nat.le_refl _, Nat.le_refl _⟩)
                    | (cases hx; exact ⟨Nat.le_succ _, Nat.le_add_right _ _⟩)
                    | (cases hx; exact ⟨Nat.le_add_right _ _, Nat.le_add_right _ _⟩)
                  )
              )
            | (rcases mifO_some hx with ⟨_, hx⟩ | ⟨_, hx⟩ <;> first
                | (cases hx; done)
                | (cases hx; exact ⟨Nat.le_refl _, Nat.le_refl _⟩)
                | (cases hx; exact ⟨Nat.le_succ _, Nat.le_add_right _ _⟩)
                | (cases hx; exact ⟨Nat.le_add_right _ _, Nat.le_add_right _ _⟩)
                | (have hx := (mckO_some hx).2; first
                    | (cases hx; done)
                    | (cases hx; exact ⟨Nat.le_refl _, Nat.le_refl _⟩)
                    | (cases hx; exact ⟨Nat.le_succ _, Nat.le_add_right _ _⟩)
                    | (cases hx; exact ⟨Nat.le_add_right _ _, Nat.le_add_right _ _⟩)
                  )
                | (rcases mifO_some hx with ⟨_, hx⟩ | ⟨_, hx⟩ <;> first
                    | (cases hx; done)
                    | (cases hx; exact ⟨Nat.le_refl _, Nat.le_refl _⟩)
                    | (cases hx; exact ⟨Nat.le_succ _, Nat.le_add_right _ _⟩)
                    | (cases hx; exact ⟨Nat.le_add_right _ _, Nat.le_add_right _ _⟩)
                  )
                | (split at hx <;> first
                    | (cases hx; done)
                    | (cases hx; exact ⟨Nat.le_refl _, Nat.le_refl _⟩)
                    | (cases hx; exact ⟨Nat.le_succ _, Nat.le_add_right _ _⟩)
                    | (cases hx; exact ⟨Nat.le_add_right _ _, Nat.le_add_right _ _⟩)
                  )
              )
            | (split at hx <;> first
                | (cases hx; done)
                | (cases hx; exact ⟨Nat.le_refl _, Nat.le_refl _⟩)
                | (cases hx; exact ⟨Nat.le_succ _, Nat.le_add_right _ _⟩)
                | (cases hx; exact ⟨Nat.le_add_right _ _, Nat.le_add_right _ _⟩)
                | (have hx := (mckO_some hx).2; first
                    | (cases hx; done)
                    | (cases hx; exact ⟨Nat.le_refl _, Nat.le_refl _⟩)
                    | (cases hx; exact ⟨Nat.le_succ _, Nat.le_add_right _ _⟩)
                    | (cases hx; exact ⟨Nat.le_add_right _ _, Nat.le_add_right _ _⟩)
                  )
                | (rcases mifO_some hx with ⟨_, hx⟩ | ⟨_, hx⟩ <;> first
                    | (cases hx; done)
                    | (cases hx; exact ⟨Nat.le_refl _, Nat.le_refl _⟩)
                    | (cases hx; exact ⟨Nat.le_succ _, Nat.le_add_right _ _⟩)
                    | (cases hx; exact ⟨Nat.le_add_right _ _, Nat.le_add_right _ _⟩)
                  )
                | (split at hx <;> first
                    | (cases hx; done)
                    | (cases hx; exact ⟨Nat.le_refl _, Nat.le_refl _⟩)
                    | (cases hx; exact ⟨Nat.le_succ _, Nat.le_add_right _ _⟩)
                    | (cases hx; exact ⟨Nat.le_add_right _ _, Nat.le_add_right _ _⟩)
                  )
              )
          )
        | (split at hx <;> first
            | (cases hx; done)
            | (cases hx; exact ⟨Nat.le_refl _, Nat.le_refl _⟩)
            | (cases hx; exact ⟨Nat.le_succ _, Nat.le_add_right _ _⟩)
            | (cases hx; exact ⟨Nat.le_add_right _ _, Nat.le_add_right _ _⟩)
            | (have hx := (mckO_some hx).2; first
                | (cases hx; done)
                | (cases hx; exact ⟨Nat.le_refl _, Nat.le_refl _⟩)
                | (cases hx; exact ⟨Nat.le_succ _, Nat.le_add_right _ _⟩)
                | (cases hx; exact ⟨Nat.le_add_right _ _, Nat.le_add_right _ _⟩)
                | (have hx := (mckO_some hx).2; first
                    | (cases hx; done)
                    | (cases hx; exact ⟨Nat.le_refl _, Nat.le_refl _⟩)
                    | (cases hx; exact ⟨Nat.le_succ _, Nat.le_add_right _ _⟩)
                    | (cases hx; exact ⟨Nat.le_add_right _ _, Nat.le_add_right _ _⟩)
                  )
                | (rcases mifO_some hx with ⟨_, hx⟩ | ⟨_, hx⟩ <;> first
                    | (cases hx; done)
                    | (cases hx; exact ⟨Nat.le_refl _, Nat.le_refl _⟩)
                    | (cases hx; exact ⟨Nat.le_succ _, Nat.le_add_right _ _⟩)
                    | (cases hx; exact ⟨Nat.le_add_right _ _, Nat.le_add_right _ _⟩)
                  )
                | (split at hx <;> first
                    | (cases hx; done)
                    | (cases hx; exact ⟨Nat.le_refl _, Nat.le_refl _⟩)
                    | (cases hx; exact ⟨Nat.le_succ _, Nat.le_add_right _ _⟩)
                    | (cases hx; exact ⟨Nat.le_add_right _ _, Nat.le_add_right _ _⟩)
                  )
              )
            | (rcases mifO_some hx with ⟨_, hx⟩ | ⟨_, hx⟩ <;> first
                | (cases hx; done)
                | (cases hx; exact ⟨Nat.le_refl _, Nat.le_refl _⟩)
                | (cases hx; exact ⟨Nat.le_succ _, Nat.le_add_right _ _⟩)
                | (cases hx; exact ⟨Nat.le_add_right _ _, Nat.le_add_right _ _⟩)
                | (have hx := (mckO_some hx).2; first
                    | (cases hx; done)
                    | (cases hx; exact ⟨Nat.le_refl _, Nat.le_refl _⟩)
                    | (cases hx; exact ⟨Nat.le_succ _, Nat.le_add_right _ _⟩)
                    | (cases hx; exact ⟨Nat.le_add_right _ _, Nat.le_add_right _ _⟩)
                  )
                | (rcases mifO_some hx with ⟨_, hx⟩ | ⟨_, hx⟩ <;> first
                    | (cases hx; done)
                    | (cases hx; exact ⟨Nat.le_refl _, Nat.le_refl _⟩)
                    | (cases hx; exact ⟨Nat.le_succ _, Nat.le_add_right _ _⟩)
                    | (cases hx; exact ⟨Nat.le_add_right _ _, Nat.le_add_right _ _⟩)
                  )
                | (split at hx <;> first
                    | (cases hx; done)
                    | (cases hx; exact ⟨Nat.le_refl _, Nat.le_refl _⟩)
                    | (cases hx; exact ⟨Nat.le_succ _, Nat.le_add_right _ _⟩)
                    | (cases hx; exact ⟨Nat.le_add_right _ _, Nat.le_add_right _ _⟩)
                  )
              )
            | (split at hx <;> first
                | (cases hx; done)
                | (cases hx; exact ⟨Nat.le_refl _, Nat.le_refl _⟩)
                | (cases hx; exact ⟨Nat.le_succ _, Nat.le_add_right _ _⟩)
                | (cases hx; exact ⟨Nat.le_add_right _ _, Nat.le_add_right _ _⟩)
                | (have hx := (mckO_some hx).2; first
                    | (cases hx; done)
                    | (cases hx; exact ⟨Nat.le_refl _, Nat.le_refl _⟩)
                    | (cases hx; exact ⟨Nat.le_succ _, Nat.le_add_right _ _⟩)
                    | (cases hx; exact ⟨Nat.le_add_right _ _, Nat.le_add_right _ _⟩)
                  )
                | (rcases mifO_some hx with ⟨_, hx⟩ | ⟨_, hx⟩ <;> first
                    | (cases hx; done)
                    | (cases hx; exact ⟨Nat.le_refl _, Nat.le_refl _⟩)
                    | (cases hx; exact ⟨Nat.le_succ _, Nat.le_add_right _ _⟩)
                    | (cases hx; exact ⟨Nat.le_add_right _ _, Nat.le_add_right _ _⟩)
                  )
                | (split at hx <;> first
                    | (cases hx; done)
                    | (cases hx; exact ⟨Nat.le_refl _, Nat.le_refl _⟩)
                    | (cases hx; exact ⟨Nat.le_succ _, Nat.le_add_right _ _⟩)
                    | (cases hx; exact ⟨Nat.le_add_right _ _, Nat.le_add_right _ _⟩)
                  )
              )
          )
      )
    | (rcases mifO_some hx with ⟨_, hx⟩ | ⟨_, hx⟩ <;> first
        | (cases hx; done)
        | (cases hx; exact ⟨Nat.le_refl _, Nat.le_refl _⟩)
        | (cases hx; exact ⟨Nat.le_succ _, Nat.le_add_right _ _⟩)
        | (cases hx; exact ⟨Nat.le_add_right _ _, Nat.le_add_right _ _⟩)
        | (have hx := (mckO_some hx).2; first
            | (cases hx; done)
            | (cases hx; exact ⟨Nat.le_refl _, Nat.le_refl _⟩)
            | (cases hx; exact ⟨Nat.le_succ _, Nat.le_add_right _ _⟩)
            | (cases hx; exact ⟨Nat.le_add_right _ _, Nat.le_add_right _ _⟩)
            | (have hx := (mckO_some hx).2; first
                | (cases hx; done)
                | (cases hx; exact ⟨Nat.le_refl _, Nat.le_refl _⟩)
                | (cases hx; exact ⟨Nat.le_succ _, Nat.le_add_right _ _⟩)
                | (cases hx; exact ⟨Nat.le_add_right _ _, Nat.le_add_right _ _⟩)
                | (have hx := (mckO_some hx).2; first
                    | (cases hx; done)
                    | (cases hx; exact ⟨Nat.le_refl _, Nat.le_refl _⟩)
                    | (cases hx; exact ⟨Nat.le_succ _, Nat.le_add_right _ _⟩)
                    | (cases hx; exact ⟨Nat.le_add_right _ _, Nat.le_add_right _ _⟩)
                  )
                | (rcases mifO_some hx with ⟨_, hx⟩ | ⟨_, hx⟩ <;> first
                    | (cases hx; done)
                    | (cases hx; exact ⟨Nat.le_refl _, Nat.le_refl _⟩)
                    | (cases hx; exact ⟨Nat.le_succ _, Nat.le_add_right _ _⟩)
                    | (cases hx; exact ⟨Nat.le_add_right _ _, Nat.le_add_right _ _⟩)
                  )
                | (split at hx <;> first
                    | (cases hx; done)
                    | (cases hx; exact ⟨Nat.le_refl _, Nat.le_refl _⟩)
                    | (cases hx; exact ⟨Nat.le_succ _, Nat.le_add_right _ _⟩)
                    | (cases hx; exact ⟨Nat.le_add_right _ _, Nat.le_add_right _ _⟩)
                  )
              )
            | (rcases mifO_some hx with ⟨_, hx⟩ | ⟨_, hx⟩ <;> first
                | (cases hx; done)
                | (cases hx; exact ⟨Nat.le_refl _, Nat.le_refl _⟩)
                | (cases hx; exact ⟨Nat.le_succ _, Nat.le_add_right _ _⟩)
                | (cases hx; exact ⟨Nat.le_add_right _ _, Nat.le_add_right _ _⟩)
                | (have hx := (mckO_some hx).2; first
                    | (cases hx; done)
                    | (cases hx; exact ⟨Nat.le_refl _, Nat.le_refl _⟩)
                    | (cases hx; exact ⟨Nat.le_succ _, Nat.le_add_right _ _⟩)
                    | (cases hx; exact ⟨Nat.le_add_right _ _, Nat.le_add_right _ _⟩)
                  )
                | (rcases mifO_some hx with ⟨_, hx⟩ | ⟨_, hx⟩ <;> first
                    | (cases hx; done)
                    | (cases hx; exact ⟨Nat.le_refl _, Nat.le_refl _⟩)
                    | (cases hx; exact ⟨Nat.le_succ _, Nat.le_add_right _ _⟩)
                    | (cases hx; exact ⟨Nat.le_add_right _ _, Nat.le_add_right _ _⟩)
                  )
                | (split at hx <;> first
                    | (cases hx; done)
                    | (cases hx; exact ⟨Nat.le_refl _, Nat.le_refl _⟩)
                    | (cases hx; exact ⟨Nat.le_succ _, Nat.le_add_right _ _⟩)
                    | (cases hx; exact ⟨Nat.le_add_right _ _, Nat.le_add_right _ _⟩)
                  )
              )
            | (split at hx <;> first
                | (cases hx; done)
                | (cases hx; exact ⟨Nat.le_refl _, Nat.le_refl _⟩)
                | (cases hx; exact ⟨Nat.le_succ _, Nat.le_add_right _ _⟩)
                | (cases hx; exact ⟨Nat.le_add_right _ _, Nat.le_add_right _ _⟩)
                | (have hx := (mckO_some hx).2; first
                    | (cases hx; done)
                    | (cases hx; exact ⟨Nat.le_refl _, Nat.le_refl _⟩)
                    | (cases hx; exact ⟨Nat.le_succ _, Nat.le_add_right _ _⟩)
                    | (cases hx; exact ⟨Nat.le_add_right _ _, Nat.le_add_right _ _⟩)
                  )
                | (rcases mifO_some hx with ⟨_, hx⟩ | ⟨_, hx⟩ <;> first
                    | (cases hx; done)
                    | (cases hx; exact ⟨Nat.le_refl _, Nat.le_refl _⟩)
                    | (cases hx; exact ⟨Nat.le_succ _, Nat.le_add_right _ _⟩)
                    | (cases hx; exact ⟨Nat.le_add_right _ _, Nat.le_add_right _ _⟩)
                  )
                | (split at hx <;> first
                    | (cases hx; done)
                    | (cases hx; exact ⟨Nat.le_refl _, Nat.le_refl _⟩)
                    | (cases hx; exact ⟨Nat.le_succ _, Nat.le_add_right _ _⟩)
                    | (cases hx; exact ⟨Nat.le_add_right _ _, Nat.le_add_right _ _⟩)
                  )
              )
          )
        | (rcases mifO_some hx with ⟨_, hx⟩ | ⟨_, hx⟩ <;> first
            | (cases hx; done)
            | (cases hx; exact ⟨Nat.le_refl _, Nat.le_refl _⟩)
            | (cases hx; exact ⟨Nat.le_succ _, Nat.le_add_right _ _⟩)
            | (cases hx; exact ⟨Nat.le_add_right _ _, Nat.le_add_right _ _⟩)
            | (have hx := (mckO_some hx).2; first
                | (cases hx; done)
                | (cases hx; exact ⟨Nat.le_refl _, Nat.le_refl _⟩)
                | (cases hx; exact ⟨Nat.le_succ _, Nat.le_add_right _ _⟩)
                | (cases hx; exact ⟨Nat.le_add_right _ _, Nat.le_add_right _ _⟩)
                | (have hx := (mckO_some hx).2; first
                    | (cases hx; done)
                    | (cases hx; exact ⟨Nat.le_refl _, Nat.le_refl _⟩)
                    | (cases hx; exact ⟨Nat.le_succ _, Nat.le_add_right _ _⟩)
                    | (cases hx; exact ⟨Nat.le_add_right _ _, Nat.le_add_right _ _⟩)
                  )
                | (rcases mifO_some hx with ⟨_, hx⟩ | ⟨_, hx⟩ <;> first
                    | (cases hx; done)
                    | (cases hx; exact ⟨Nat.le_refl _, Nat.le_refl _⟩)
                    | (cases hx; exact ⟨Nat.le_succ _, Nat.le_add_right _ _⟩)
                    | (cases hx; exact ⟨Nat.le_add_right _ _, Nat.le_add_right _ _⟩)
                  )
                | (split at hx <;> first
                    | (cases hx; done)
                    | (cases hx; exact ⟨Nat.le_refl _, Nat.le_refl _⟩)
                    | (cases hx; exact ⟨Nat.le_succ _, Nat.le_add_right _ _⟩)
                    | (cases hx; exact ⟨Nat.le_add_right _ _, Nat.le_add_right _ _⟩)
                  )
              )
            | (rcases mifO_some hx with ⟨_, hx⟩ | ⟨_, hx⟩ <;> first
                | (cases hx; done)
                | (cases hx; exact ⟨Nat.le_refl _, Nat.le_refl _⟩)
                | (cases hx; exact ⟨Nat.le_succ _, Nat.le_add_right _ _⟩)
                | (cases hx; exact ⟨Nat.le_add_right _ _, Nat.le_add_right _ _⟩)
                | (have hx := (mckO_some hx).2; first
                    | (cases hx; done)
                    | (cases hx; exact ⟨Nat.le_refl _, Nat.le_refl _⟩)
                    | (cases hx; exact ⟨Nat.le_succ _, Nat.le_add_right _ _⟩)
                    | (cases hx; exact ⟨Nat.le_add_right _ _, Nat.le_add_right _ _⟩)
                  )
                | (rcases mifO_some hx with ⟨_, hx⟩ | ⟨_, hx⟩ <;> first
                    | (cases hx; done)
                    | (cases hx; exact ⟨Nat.le_refl _, Nat.le_refl _⟩)
                    | (cases hx; exact ⟨Nat.le_succ _, Nat.le_add_right _ _⟩)
                    | (cases hx; exact ⟨Nat.le_add_right _ _, Nat.le_add_right _ _⟩)
                  )
                | (split at hx <;> first
                    | (cases hx; done)
                    | (cases hx; exact ⟨Nat.le_refl _, Nat.le_refl _⟩)
                    | (cases hx; exact ⟨Nat.le_succ _, Nat.le_add_right _ _⟩)
                    | (cases hx; exact ⟨Nat.le_add_right _ _, Nat.le_add_right _ _⟩)
                  )
              )
            | (split at hx <;> first
                | (cases hx; done)
                | (cases hx; exact ⟨Nat.le_refl _, Nat.le_refl _⟩)
                | (cases hx; exact ⟨Nat.le_succ _, Nat.le_add_right _ _⟩)
                | (cases hx; exact ⟨Nat.le_add_right _ _, Nat.le_add_right _ _⟩)
                | (have hx := (mckO_some hx).2; first
                    | (cases hx; done)
                    | (cases hx; exact ⟨Nat.le_refl _, Nat.le_refl _⟩)
                    | (cases hx; exact ⟨Nat.le_succ _, Nat.le_add_right _ _⟩)
                    | (cases hx; exact ⟨Nat.le_add_right _ _, Nat.le_add_right _ _⟩)
                  )
                | (rcases mifO_some hx with ⟨_, hx⟩ | ⟨_, hx⟩ <;> first
                    | (cases hx; done)
                    | (cases hx; exact ⟨Nat.le_refl _, Nat.le_refl _⟩)
                    | (cases hx; exact ⟨Nat.le_succ _, Nat.le_add_right _ _⟩)
                    | (cases hx; exact ⟨Nat.le_add_right _ _, Nat.le_add_right _ _⟩)
                  )
                | (split at hx <;> first
                    | (cases hx; done)
                    | (cases hx; exact ⟨Nat.le_refl _, Nat.le_refl _⟩)
                    | (cases hx; exact ⟨Nat.le_succ _, Nat.le_add_right _ _⟩)
                    | (cases hx; exact ⟨Nat.le_add_right _ _, Nat.le_add_right _ _⟩)
                  )
              )
          )
        | (split at hx <;> first
            | (cases hx; done)
            | (cases hx; exact ⟨Nat.le_refl _, Nat.le_refl _⟩)
            | (cases hx; exact ⟨Nat.le_succ _, Nat.le_add_right _ _⟩)
            | (cases hx; exact ⟨Nat.le_add_right _ _, Nat.le_add_right _ _⟩)
            | (have hx := (mckO_some hx).2; first
                | (cases hx; done)
                | (cases hx; exact ⟨Nat.le_refl _, Nat.le_refl _⟩)
                | (cases hx; exact ⟨Nat.le_succ _, Nat.le_add_right _ _⟩)
                | (cases hx; exact ⟨Nat.le_add_right _ _, Nat.le_add_right _ _⟩)
                | (have hx := (mckO_some hx).2; first
                    | (cases hx; done)
                    | (cases hx; exact ⟨Nat.le_refl _, Nat.le_refl _⟩)
                    | (cases hx; exact ⟨Nat.le_succ _, Nat.le_add_right _ _⟩)
                    | (cases hx; exact ⟨Nat.le_add_right _ _, Nat.le_add_right _ _⟩)
                  )
                | (rcases mifO_some hx with ⟨_, hx⟩ | ⟨_, hx⟩ <;> first
                    | (cases hx; done)
                    | (cases hx; exact ⟨Nat.le_refl _, Nat.le_refl _⟩)
                    | (cases hx; exact ⟨Nat.le_succ _, Nat.le_add_right _ _⟩)
                    | (cases hx; exact ⟨Nat.le_add_right _ _, Nat.le_add_right _ _⟩)
                  )
                | (split at hx <;> first
                    | (cases hx; done)
                    | (cases hx; exact ⟨Nat.le_refl _, Nat.le_refl _⟩)
                    | (cases hx; exact ⟨Nat.le_succ _, Nat.le_add_right _ _⟩)
                    | (cases hx; exact ⟨Nat.le_add_right _ _, Nat.le_add_right _ _⟩)
                  )
              )
            | (rcases mifO_some hx with ⟨_, hx⟩ | ⟨_, hx⟩ <;> first
                | (cases hx; done)
                | (cases hx; exact ⟨Nat.le_refl _, Nat.le_refl _⟩)
                | (cases hx; exact ⟨Nat.le_succ _, Nat.le_add_right _ _⟩)
                | (cases hx; exact ⟨Nat.le_add_right _ _, Nat.le_add_right _ _⟩)
                | (have hx := (mckO_some hx).2; first
                    | (cases hx; done)
                    | (cases hx; exact ⟨Nat.le_refl _, Nat.le_refl _⟩)
                    | (cases hx; exact ⟨Nat.le_succ _, Nat.le_add_right _ _⟩)
                    | (cases hx; exact ⟨Nat.le_add_right _ _, Nat.le_add_right _ _⟩)
                  )
                | (rcases mifO_some hx with ⟨_, hx⟩ | ⟨_, hx⟩ <;> first
                    | (cases hx; done)
                    | (cases hx; exact ⟨Nat.le_refl _, Nat.le_refl _⟩)
                    | (cases hx; exact ⟨Nat.le_succ _, Nat.le_add_right _ _⟩)
                    | (cases hx; exact ⟨Nat.le_add_right _ _, Nat.le_add_right _ _⟩)
                  )
                | (split at hx <;> first
                    | (cases hx; done)
                    | (cases hx; exact ⟨Nat.le_refl _, Nat.le_refl _⟩)
                    | (cases hx; exact ⟨Nat.le_succ _, Nat.le_add_right _ _⟩)
                    | (cases hx; exact ⟨Nat.le_add_right _ _, Nat.le_add_right _ _⟩)
                  )
              )
            | (split at hx <;> first
                | (cases hx; done)
                | (cases hx; exact ⟨Nat.le_refl _, Nat.le_refl _⟩)
                | (cases hx; exact ⟨Nat.le_succ _, Nat.le_add_right _ _⟩)
                | (cases hx; exact ⟨Nat.le_add_right _ _, Nat.le_add_right _ _⟩)
                | (have hx := (mckO_some hx).2; first
                    | (cases hx; done)
                    | (cases hx; exact ⟨Nat.le_refl _, Nat.le_refl _⟩)
                    | (cases hx; exact ⟨Nat.le_succ _, Nat.le_add_right _ _⟩)
                    | (cases hx; exact ⟨Nat.le_add_right _ _, Nat.le_add_right _ _⟩)
                  )
                | (rcases mifO_some hx with ⟨_, hx⟩ | ⟨_, hx⟩ <;> first
                    | (cases hx; done)
                    | (cases hx; exact ⟨Nat.le_refl _, Nat.le_refl _⟩)
                    | (cases hx; exact ⟨Nat.le_succ _, Nat.le_add_right _ _⟩)
                    | (cases hx; exact ⟨Nat.le_add_right _ _, Nat.le_add_right _ _⟩)
                  )
                | (split at hx <;> first
                    | (cases hx; done)
                    | (cases hx; exact ⟨Nat.le_refl _, Nat.le_refl _⟩)
                    | (cases hx; exact ⟨Nat.le_succ _, Nat.le_add_right _ _⟩)
                    | (cases hx; exact ⟨Nat.le_add_right _ _, Nat.le_add_right _ _⟩)
                  )
              )
          )
      )
    | (split at hx <;> first
        | (cases hx; done)
        | (cases hx; exact ⟨Nat.le_refl _, Nat.le_refl _⟩)
        | (cases hx; exact ⟨Nat.le_succ _, Nat.le_add_right _ _⟩)
        | (cases hx; exact ⟨Nat.le_add_right _ _, Nat.le_add_right _ _⟩)
        | (have hx := (mckO_some hx).2; first
            | (cases hx; done)
            | (cases hx; exact ⟨Nat.le_refl _, Nat.le_refl _⟩)
            | (cases hx; exact ⟨Nat.le_succ _, Nat.le_add_right _ _⟩)
            | (cases hx; exact ⟨Nat.le_add_right _ _, Nat.le_add_right _ _⟩)
            | (have hx := (mckO_some hx).2; first
                | (cases hx; done)
                | (cases hx; exact ⟨Nat.le_refl _, Nat.le_refl _⟩)
                | (cases hx; exact ⟨Nat.le_succ _, Nat.le_add_right _ _⟩)
                | (cases hx; exact ⟨Nat.le_add_right _ _, Nat.le_add_right _ _⟩)
                | (have hx := (mckO_some hx).2; first
                    | (cases hx; done)
                    | (cases hx; exact ⟨Nat.le_refl _, Nat.le_refl _⟩)
                    | (cases hx; exact ⟨Nat.le_succ _, Nat.le_add_right _ _⟩)
                    | (cases hx; exact ⟨Nat.le_add_right _ _, Nat.le_add_right _ _⟩)
                  )
                | (rcases mifO_some hx with ⟨_, hx⟩ | ⟨_, hx⟩ <;> first
                    | (cases hx; done)
                    | (cases hx; exact ⟨Nat.le_refl _, Nat.le_refl _⟩)
                    | (cases hx; exact ⟨Nat.le_succ _, Nat.le_add_right _ _⟩)
                    | (cases hx; exact ⟨Nat.le_add_right _ _, Nat.le_add_right _ _⟩)
                  )
                | (split at hx <;> first
                    | (cases hx; done)
                    | (cases hx; exact ⟨Nat.le_refl _, Nat.le_refl _⟩)
                    | (cases hx; exact ⟨Nat.le_succ _, Nat.le_add_right _ _⟩)
                    | (cases hx; exact ⟨Nat.le_add_right _ _, Nat.le_add_right _ _⟩)
                  )
              )
            | (rcases mifO_some hx with ⟨_, hx⟩ | ⟨_, hx⟩ <;> first
                | (cases hx; done)
                | (cases hx; exact ⟨Nat.le_refl _, Nat.le_refl _⟩)
                | (cases hx; exact ⟨Nat.le_succ _, Nat.le_add_right _ _⟩)
                | (cases hx; exact ⟨Nat.le_add_right _ _, Nat.le_add_right _ _⟩)
                | (have hx := (mckO_some hx).2; first
                    | (cases hx; done)
                    | (cases hx; exact ⟨Nat.le_refl _, Nat.le_refl _⟩)
                    | (cases hx; exact ⟨Nat.le_succ _, Nat.le_add_right _ _⟩)
                    | (cases hx; exact ⟨Nat.le_add_right _ _, Nat.le_add_right _ _⟩)
                  )
                | (rcases mifO_some hx with ⟨_, hx⟩ | ⟨_, hx⟩ <;> first
                    | (cases hx; done)
                    | (cases hx; exact ⟨Nat.le_refl _, Nat.le_refl _⟩)
                    | (cases hx; exact ⟨Nat.le_succ _, Nat.le_add_right _ _⟩)
                    | (cases hx; exact ⟨Nat.le_add_right _ _, Nat.le_add_right _ _⟩)
                  )
                | (split at hx <;> first
                    | (cases hx; done)
                    | (cases hx; exact ⟨Nat.le_refl _, Nat.le_refl _⟩)
                    | (cases hx; exact ⟨Nat.le_succ _, Nat.le_add_right _ _⟩)
                    | (cases hx; exact ⟨Nat.le_add_right _ _, Nat.le_add_right _ _⟩)
                  )
              )
            | (split at hx <;> first
                | (cases hx; done)
                | (cases hx; exact ⟨Nat.le_refl _, Nat.le_refl _⟩)
                | (cases hx; exact ⟨Nat.le_succ _, Nat.le_add_right _ _⟩)
                | (cases hx; exact ⟨Nat.le_add_right _ _, Nat.le_add_right _ _⟩)
                | (have hx := (mckO_some hx).2; first
                    | (cases hx; done)
                    | (cases hx; exact ⟨Nat.le_refl _, Nat.le_refl _⟩)
                    | (cases hx; exact ⟨Nat.le_succ _, Nat.le_add_right _ _⟩)
                    | (cases hx; exact ⟨Nat.le_add_right _ _, Nat.le_add_right _ _⟩)
                  )
                | (rcases mifO_some hx with ⟨_, hx⟩ | ⟨_, hx⟩ <;> first
                    | (cases hx; done)
                    | (cases hx; exact ⟨Nat.le_refl _, Nat.le_refl _⟩)
                    | (cases hx; exact ⟨Nat.le_succ _, Nat.le_add_right _ _⟩)
                    | (cases hx; exact ⟨Nat.le_add_right _ _, Nat.le_add_right _ _⟩)
                  )
                | (split at hx <;> first
                    | (cases hx; done)
                    | (cases hx; exact ⟨Nat.le_refl _, Nat.le_refl _⟩)
                    | (cases hx; exact ⟨Nat.le_succ _, Nat.le_add_right _ _⟩)
                    | (cases hx; exact ⟨Nat.le_add_right _ _, Nat.le_add_right _ _⟩)
                  )
              )
          )
        | (rcases mifO_some hx with ⟨_, hx⟩ | ⟨_, hx⟩ <;> first
            | (cases hx; done)
            | (cases hx; exact ⟨Nat.le_refl _, Nat.le_refl _⟩)
            | (cases hx; exact ⟨Nat.le_succ _, Nat.le_add_right _ _⟩)
            | (cases hx; exact ⟨Nat.le_add_right _ _, Nat.le_add_right _ _⟩)
            | (have hx := (mckO_some hx).2; first
                | (cases hx; done)
                | (cases hx; exact ⟨Nat.le_refl _, Nat.le_refl _⟩)
                | (cases hx; exact ⟨Nat.le_succ _, Nat.le_add_right _ _⟩)
                | (cases hx; exact ⟨Nat.le_add_right _ _, Nat.le_add_right _ _⟩)
                | (have hx := (mckO_some hx).2; first
                    | (cases hx; done)
                    | (cases hx; exact ⟨Nat.le_refl _, Nat.le_refl _⟩)
                    | (cases hx; exact ⟨Nat.le_succ _, Nat.le_add_right _ _⟩)
                    | (cases hx; exact ⟨Nat.le_add_right _ _, Nat.le_add_right _ _⟩)
                  )
                | (rcases mifO_some hx with ⟨_, hx⟩ | ⟨_, hx⟩ <;> first
                    | (cases hx; done)
                    | (cases hx; exact ⟨Nat.le_refl _, Nat.le_refl _⟩)
                    | (cases hx; exact ⟨Nat.le_succ _, Nat.le_add_right _ _⟩)
                    | (cases hx; exact ⟨Nat.le_add_right _ _, Nat.le_add_right _ _⟩)
                  )
                | (split at hx <;> first
                    | (cases hx; done)
                    | (cases hx; exact ⟨Nat.le_refl _, Nat.le_refl _⟩)
                    | (cases hx; exact ⟨Nat.le_succ _, Nat.le_add_right _ _⟩)
                    | (cases hx; exact ⟨Nat.le_add_right _ _, Nat.le_add_right _ _⟩)
                  )
              )
            | (rcases mifO_some hx with ⟨_, hx⟩ | ⟨_, hx⟩ <;> first
                | (cases hx; done)
                | (cases hx; exact ⟨Nat.le_refl _, Nat.le_refl _⟩)
                | (cases hx; exact ⟨Nat.le_succ _, Nat.le_add_right _ _⟩)
                | (cases hx; exact ⟨Nat.le_add_right _ _, Nat.le_add_right _ _⟩)
                | (have hx := (mckO_some hx).2; first
                    | (cases hx; done)
                    | (cases hx; exact ⟨Nat.le_refl _, Nat.le_refl _⟩)
                    | (cases hx; exact ⟨Nat.le_succ _, Nat.le_add_right _ _⟩)
                    | (cases hx; exact ⟨Nat.le_add_right _ _, Nat.le_add_right _ _⟩)
                  )
                | (rcases mifO_some hx with ⟨_, hx⟩ | ⟨_, hx⟩ <;> first
                    | (cases hx; done)
                    | (cases hx; exact ⟨Nat.le_refl _, Nat.le_refl _⟩)
                    | (cases hx; exact ⟨Nat.le_succ _, Nat.le_add_right _ _⟩)
                    | (cases hx; exact ⟨Nat.le_add_right _ _, Nat.le_add_right _ _⟩)
                  )
                | (split at hx <;> first
                    | (cases hx; done)
                    | (cases hx; exact ⟨Nat.le_refl _, Nat.le_refl _⟩)
                    | (cases hx; exact ⟨Nat.le_succ _, Nat.le_add_right _ _⟩)
                    | (cases hx; exact ⟨Nat.le_add_right _ _, Nat.le_add_right _ _⟩)
                  )
              )
            | (split at hx <;> first
                | (cases hx; done)
                | (cases hx; exact ⟨Nat.le_refl _, Nat.le_refl _⟩)
                | (cases hx; exact ⟨Nat.le_succ _, Nat.le_add_right _ _⟩)
                | (cases hx; exact ⟨Nat.le_add_right _ _, Nat.le_add_right _ _⟩)
                | (have hx := (mckO_some hx).2; first
                    | (cases hx; done)
                    | (cases hx; exact ⟨Nat.le_refl _, Nat.le_refl _⟩)
                    | (cases hx; exact ⟨Nat.le_succ _, Nat.le_add_right _ _⟩)
                    | (cases hx; exact ⟨Nat.le_add_right _ _, Nat.le_add_right _ _⟩)
                  )
                | (rcases mifO_some hx with ⟨_, hx⟩ | ⟨_, hx⟩ <;> first
                    | (cases hx; done)
                    | (cases hx; exact ⟨Nat.le_refl _, Nat.le_refl _⟩)
                    | (cases hx; exact ⟨Nat.le_succ _, Nat.le_add_right _ _⟩)
                    | (cases hx; exact ⟨Nat.le_add_right _ _, Nat.le_add_right _ _⟩)
                  )
                | (split at hx <;> first
                    | (cases hx; done)
                    | (cases hx; exact ⟨Nat.le_refl _, Nat.le_refl _⟩)
                    | (cases hx; exact ⟨Nat.le_succ _, Nat.le_add_right _ _⟩)
                    | (cases hx; exact ⟨Nat.le_add_right _ _, Nat.le_add_right _ _⟩)
                  )
              )
          )
        | (split at hx <;> first
            | (cases hx; done)
            | (cases hx; exact ⟨Nat.le_refl _, Nat.le_refl _⟩)
            | (cases hx; exact ⟨Nat.le_succ _, Nat.le_add_right _ _⟩)
            | (cases hx; exact ⟨Nat.le_add_right _ _, Nat.le_add_right _ _⟩)
            | (have hx := (mckO_some hx).2; first
                | (cases hx; done)
                | (cases hx; exact ⟨Nat.le_refl _, Nat.le_refl _⟩)
                | (cases hx; exact ⟨Nat.le_succ _, Nat.le_add_right _ _⟩)
                | (cases hx; exact ⟨Nat.le_add_right _ _, Nat.le_add_right _ _⟩)
                | (have hx := (mckO_some hx).2; first
                    | (cases hx; done)
                    | (cases hx; exact ⟨Nat.le_refl _, Nat.le_refl _⟩)
                    | (cases hx; exact ⟨Nat.le_succ _, Nat.le_add_right _ _⟩)
                    | (cases hx; exact ⟨Nat.le_add_right _ _, Nat.le_add_right _ _⟩)
                  )
                | (rcases mifO_some hx with ⟨_, hx⟩ | ⟨_, hx⟩ <;> first
                    | (cases hx; done)
                    | (cases hx; exact ⟨Nat.le_refl _, Nat.le_refl _⟩)
                    | (cases hx; exact ⟨Nat.le_succ _, Nat.le_add_right _ _⟩)
                    | (cases hx; exact ⟨Nat.le_add_right _ _, Nat.le_add_right _ _⟩)
                  )
                | (split at hx <;> first
                    | (cases hx; done)
                    | (cases hx; exact ⟨Nat.le_refl _, Nat.le_refl _⟩)
                    | (cases hx; exact ⟨Nat.le_succ _, Nat.le_add_right _ _⟩)
                    | (cases hx; exact ⟨Nat.le_add_right _ _, Nat.le_add_right _ _⟩)
                  )
              )
            | (rcases mifO_some hx with ⟨_, hx⟩ | ⟨_, hx⟩ <;> first
                | (cases hx; done)
                | (cases hx; exact ⟨Nat.le_refl _, Nat.le_refl _⟩)
                | (cases hx; exact ⟨Nat.le_succ _, Nat.le_add_right _ _⟩)
                | (cases hx; exact ⟨Nat.le_add_right _ _, Nat.le_add_right _ _⟩)
                | (have hx := (mckO_some hx).2; first
                    | (cases hx; done)
                    | (cases hx; exact ⟨Nat.le_refl _, Nat.le_refl _⟩)
                    | (cases hx; exact ⟨Nat.le_succ _, Nat.le_add_right _ _⟩)
                    | (cases hx; exact ⟨Nat.le_add_right _ _, Nat.le_add_right _ _⟩)
                  )
                | (rcases mifO_some hx with ⟨_, hx⟩ | ⟨_, hx⟩ <;> first
                    | (cases hx; done)
                    | (cases hx; exact ⟨Nat.le_refl _, Nat.le_refl _⟩)
                    | (cases hx; exact ⟨Nat.le_succ _, Nat.le_add_right _ _⟩)
                    | (cases hx; exact ⟨Nat.le_add_right _ _, Nat.le_add_right _ _⟩)
                  )
                | (split at hx <;> first
                    | (cases hx; done)
                    | (cases hx; exact ⟨Nat.le_refl _, Nat.le_refl _⟩)
                    | (cases hx; exact ⟨Nat.le_succ _, Nat.le_add_right _ _⟩)
                    | (cases hx; exact ⟨Nat.le_add_right _ _, Nat.le_add_right _ _⟩)
                  )
              )
            | (split at hx <;> first
                | (cases hx; done)
                | (cases hx; exact ⟨Nat.le_refl _, Nat.le_refl _⟩)
                | (cases hx; exact ⟨Nat.le_succ _, Nat.le_add_right _ _⟩)
                | (cases hx; exact ⟨Nat.le_add_right _ _, Nat.le_add_right _ _⟩)
                | (have hx := (mckO_some hx).2; first
                    | (cases hx; done)
                    | (cases hx; exact ⟨Nat.le_refl _, Nat.le_refl _⟩)
                    | (cases hx; exact ⟨Nat.le_succ _, Nat.le_add_right _ _⟩)
                    | (cases hx; exact ⟨Nat.le_add_right _ _, Nat.le_add_right _ _⟩)
                  )
                | (rcases mifO_some hx with ⟨_, hx⟩ | ⟨_, hx⟩ <;> first
                    | (cases hx; done)
                    | (cases hx; exact ⟨Nat.le_refl _, Nat.le_refl _⟩)
                    | (cases hx; exact ⟨Nat.le_succ _, Nat.le_add_right _ _⟩)
                    | (cases hx; exact ⟨Nat.le_add_right _ _, Nat.le_add_right _ _⟩)
                  )
                | (split at hx <;> first
                    | (cases hx; done)
                    | (cases hx; exact ⟨Nat.le_refl _, Nat.le_refl _⟩)
                    | (cases hx; exact ⟨Nat.le_succ _, Nat.le_add_right _ _⟩)
                    | (cases hx; exact ⟨Nat.le_add_right _ _, Nat.le_add_right _ _⟩)
                  )
              )
          )
      )
    | skip
  all_goals done
set_option maxRecDepth 100000 in
set_option maxHeartbeats 8000000 in
theorem mxK_ge {y pc : Nat} {lo : mLo} {st : mSt} {h : mH} {x : mS} (hx : mxKF y pc lo st h = some x) : mGe h x := by
  unfold mxKF at hx
  split at hx
  all_goals first
    | (cases hx; done)
    | (cases hx; exact ⟨Nat.le_refl _, Nat.le_refl _⟩)
    | (cases hx; exact ⟨Nat.le_succ _, Nat.le_add_right _ _⟩)
    | (cases hx; exact ⟨Nat.le_add_right _ _, Nat.le_add_right _ _⟩)
    | (have hx := (mckO_some hx).2; first
        | (cases hx; done)
        | (cases hx; exact ⟨Nat.le_refl _, Nat.le_refl _⟩)
        | (cases hx; exact ⟨Nat.le_succ _, Nat.le_add_right _ _⟩)
        | (cases hx; exact ⟨Nat.le_add_right _ _, Nat.le_add_right _ _⟩)
        | (have hx := (mckO_some hx).2; first
            | (cases hx; done)
            | (cases hx; exact ⟨Nat.le_refl _, Nat.le_refl _⟩)
            | (cases hx; exact ⟨Nat.le_succ _, Nat.le_add_right _ _⟩)
            | (cases hx; exact ⟨Nat.le_add_right _ _, Nat.le_add_right _ _⟩)
            | (have hx := (mckO_some hx).2; first
                | (cases hx; done)
                | (cases hx; exact ⟨Nat.le_refl _, Nat.le_refl _⟩)
                | (cases hx; exact ⟨Nat.le_succ _, Nat.le_add_right _ _⟩)
                | (cases hx; exact ⟨Nat.le_add_right _ _, Nat.le_add_right _ _⟩)
              )
            | (rcases mifO_some hx with ⟨_, hx⟩ | ⟨_, hx⟩ <;> first
                | (cases hx; done)
                | (cases hx; exact ⟨Nat.le_refl _, Nat.le_refl _⟩)
                | (cases hx; exact ⟨Nat.le_succ _, Nat.le_add_right _ _⟩)
                | (cases hx; exact ⟨Nat.le_add_right _ _, Nat.le_add_right _ _⟩)
              )
            | (split at hx <;> first
                | (cases hx; done)
                | (cases hx; exact ⟨Nat.le_refl _, Nat.le_refl _⟩)
                | (cases hx; exact ⟨Nat.le_succ _, Nat.le_add_right _ _⟩)
                | (cases hx; exact ⟨Nat.le_add_right _ _, Nat.le_add_right _ _⟩)
              )
          )
        | (rcases mifO_some hx with ⟨_, hx⟩ | ⟨_, hx⟩ <;> first
            | (cases hx; done)
            | (cases hx; exact ⟨Nat.le_refl _, Nat.le_refl _⟩)
            | (cases hx; exact ⟨Nat.le_succ _, Nat.le_add_right _ _⟩)
            | (cases hx; exact ⟨Nat.le_add_right _ _, Nat.le_add_right _ _⟩)
            | (have hx := (mckO_some hx).2; first
                | (cases hx; done)
                | (cases hx; exact ⟨Nat.le_refl _, Nat.le_refl _⟩)
                | (cases hx; exact ⟨Nat.le_succ _, Nat.le_add_right _ _⟩)
                | (cases hx; exact ⟨Nat.le_add_right _ _, Nat.le_add_right _ _⟩)
              )
            | (rcases mifO_some hx with ⟨_, hx⟩ | ⟨_, hx⟩ <;> first
                | (cases hx; done)
                | (cases hx; exact ⟨Nat.le_refl _, Nat.le_refl _⟩)
                | (cases hx; exact ⟨Nat.le_succ _, Nat.le_add_right _ _⟩)
                | (cases hx; exact ⟨Nat.le_add_right _ _, Nat.le_add_right _ _⟩)
              )
            | (split at hx <;> first
                | (cases hx; done)
                | (cases hx; exact ⟨Nat.le_refl _, Nat.le_refl _⟩)
                | (cases hx; exact ⟨Nat.le_succ _, Nat.le_add_right _ _⟩)
                | (cases hx; exact ⟨Nat.le_add_right _ _, Nat.le_add_right _ _⟩)
              )
          )
        | (split at hx <;> first
            | (cases hx; done)
            | (cases hx; exact ⟨Nat.le_refl _, Nat.le_refl _⟩)
            | (cases hx; exact ⟨Nat.le_succ _, Nat.le_add_right _ _⟩)
            | (cases hx; exact ⟨Nat.le_add_right _ _, Nat.le_add_right _ _⟩)
            | (have hx := (mckO_some hx).2; first
                | (cases hx; done)
                | (cases hx; exact ⟨Nat.le_refl _, Nat.le_refl _⟩)
                | (cases hx; exact ⟨Nat.le_succ _, Nat.le_add_right _ _⟩)
                | (cases hx; exact ⟨Nat.le_add_right _ _, Nat.le_add_right _ _⟩)
              )
            | (rcases mifO_some hx with ⟨_, hx⟩ | ⟨_, hx⟩ <;> first
                | (cases hx; done)
                | (cases hx; exact ⟨Nat.le_refl _, Nat.le_refl _⟩)
                | (cases hx; exact ⟨Nat.le_succ _, Nat.le_add_right _ _⟩)
                | (cases hx; exact ⟨Nat.le_add_right _ _, Nat.le_add_right _ _⟩)
              )
            | (split at hx <;> first
                | (cases hx; done)
                | (cases hx; exact ⟨Nat.le_refl _, Nat.le_refl _⟩)
                | (cases hx; exact ⟨Nat.le_succ _, Nat.le_add_right _ _⟩)
                | (cases hx; exact ⟨Nat.le_add_right _ _, Nat.le_add_right _ _⟩)
              )
          )
      )
    | (rcases mifO_some hx with ⟨_, hx⟩ | ⟨_, hx⟩ <;> first
        | (cases hx; done)
        | (cases hx; exact ⟨Nat.le_refl _, Nat.le_refl _⟩)
        | (cases hx; exact ⟨Nat.le_succ _, Nat.le_add_right _ _⟩)
        | (cases hx; exact ⟨Nat.le_add_right _ _, Nat.le_add_right _ _⟩)
        | (have hx := (mckO_some hx).2; first
            | (cases hx; done)
            | (cases hx; exact ⟨Nat.le_refl _, Nat.le_refl _⟩)
            | (cases hx; exact ⟨Nat.le_succ _, Nat.le_add_right _ _⟩)
            | (cases hx; exact ⟨Nat.le_add_right _ _, Nat.le_add_right _ _⟩)
            | (have hx := (mckO_some hx).2; first
                | (cases hx; done)
                | (cases hx; exact ⟨Nat.le_refl _, Nat.le_refl _⟩)
                | (cases hx; exact ⟨Nat.le_succ _, Nat.le_add_right _ _⟩)
                | (cases hx; exact ⟨Nat.le_add_right _ _, Nat.le_add_right _ _⟩)
              )
            | (rcases mifO_some hx with ⟨_, hx⟩ | ⟨_, hx⟩ <;> first
                | (cases hx; done)
                | (cases hx; exact ⟨Nat.le_refl _, Nat.le_refl _⟩)
                | (cases hx; exact ⟨Nat.le_succ _, Nat.le_add_right _ _⟩)
                | (cases hx; exact ⟨Nat.le_add_right _ _, Nat.le_add_right _ _⟩)
              )
            | (split at hx <;> first
                | (cases hx; done)
                | (cases hx; exact ⟨Nat.le_refl _, Nat.le_refl _⟩)
                | (cases hx; exact ⟨Nat.le_succ _, Nat.le_add_right _ _⟩)
                | (cases hx; exact ⟨Nat.le_add_right _ _, Nat.le_add_right _ _⟩)
              )
          )
        | (rcases mifO_some hx with ⟨_, hx⟩ | ⟨_, hx⟩ <;> first
            | (cases hx; done)
            | (cases hx; exact ⟨Nat.le_refl _, Nat.le_refl _⟩)
            | (cases hx; exact ⟨Nat.le_succ _, Nat.le_add_right _ _⟩)
            | (cases hx; exact ⟨Nat.le_add_right _ _, Nat.le_add_right _ _⟩)
            | (have hx := (mckO_some hx).2; first
                | (cases hx; done)
                | (cases hx; exact ⟨Nat.le_refl _, Nat.le_refl _⟩)
                | (cases hx; exact ⟨Nat.le_succ _, Nat.le_add_right _ _⟩)
                | (cases hx; exact ⟨Nat.le_add_right _ _, Nat.le_add_right _ _⟩)
              )
            | (rcases mifO_some hx with ⟨_, hx⟩ | ⟨_, hx⟩ <;> first
                | (cases hx; done)
                | (cases hx; exact ⟨Nat.le_refl _, Nat.le_refl _⟩)
                | (cases hx; exact ⟨Nat.le_succ _, Nat.le_add_right _ _⟩)
                | (cases hx; exact ⟨Nat.le_add_right _ _, Nat.le_add_right _ _⟩)
              )
            | (split at hx <;> first
                | (cases hx; done)
                | (cases hx; exact ⟨Nat.le_refl _, Nat.le_refl _⟩)
                | (cases hx; exact ⟨Nat.le_succ _, Nat.le_add_right _ _⟩)
                | (cases hx; exact ⟨Nat.le_add_right _ _, Nat.le_add_right _ _⟩)
              )
          )
        | (split at hx <;> first
            | (cases hx; done)
            | (cases hx; exact ⟨Nat.le_refl _, Nat.le_refl _⟩)
            | (cases hx; exact ⟨Nat.le_succ _, Nat.le_add_right _ _⟩)
            | (cases hx; exact ⟨Nat.le_add_right _ _, Nat.le_add_right _ _⟩)
            | (have hx := (mckO_some hx).2; first
                | (cases hx; done)
                | (cases hx; exact ⟨Nat.le_refl _, Nat.le_refl _⟩)
                | (cases hx; exact ⟨Nat.le_succ _, Nat.le_add_right _ _⟩)
                | (cases hx; exact ⟨Nat.le_add_right _ _, Nat.le_add_right _ _⟩)
              )
            | (rcases mifO_some hx with ⟨_, hx⟩ | ⟨_, hx⟩ <;> first
                | (cases hx; done)
                | (cases hx; exact ⟨Nat.le_refl _, Nat.le_refl _⟩)
                | (cases hx; exact ⟨Nat.le_succ _, Nat.le_add_right _ _⟩)
                | (cases hx; exact ⟨Nat.le_add_right _ _, Nat.le_add_right _ _⟩)
              )
            | (split at hx <;> first
                | (cases hx; done)
                | (cases hx; exact ⟨Nat.le_refl _, Nat.le_refl _⟩)
                | (cases hx; exact ⟨Nat.le_succ _, Nat.le_add_right _ _⟩)
                | (cases hx; exact ⟨Nat.le_add_right _ _, Nat.le_add_right _ _⟩)
              )
          )
      )
    | (split at hx <;> first
        | (cases hx; done)
        | (cases hx; exact ⟨Nat.le_refl _, Nat.le_refl _⟩)
        | (cases hx; exact ⟨Nat.le_succ _, Nat.le_add_right _ _⟩)
        | (cases hx; exact ⟨Nat.le_add_right _ _, Nat.le_add_right _ _⟩)
        | (have hx := (mckO_some hx).2; first
            | (cases hx; done)
            | (cases hx; exact ⟨Nat.le_refl _, Nat.le_refl _⟩)
            | (cases hx; exact ⟨Nat.le_succ _, Nat.le_add_right _ _⟩)
            | (cases hx; exact ⟨Nat.le_add_right _ _, Nat.le_add_right _ _⟩)
            | (have hx := (mckO_some hx).2; first
                | (cases hx; done)
                | (cases hx; exact ⟨Nat.le_refl _, Nat.le_refl _⟩)
                | (cases hx; exact ⟨Nat.le_succ _, Nat.le_add_right _ _⟩)
                | (cases hx; exact ⟨Nat.le_add_right _ _, Nat.le_add_right _ _⟩)
              )
            | (rcases mifO_some hx with ⟨_, hx⟩ | ⟨_, hx⟩ <;> first
                | (cases hx; done)
                | (cases hx; exact ⟨Nat.le_refl _, Nat.le_refl _⟩)
                | (cases hx; exact ⟨Nat.le_succ _, Nat.le_add_right _ _⟩)
                | (cases hx; exact ⟨Nat.le_add_right _ _, Nat.le_add_right _ _⟩)
              )
            | (split at hx <;> first
                | (cases hx; done)
                | (cases hx; exact ⟨Nat.le_refl _, Nat.le_refl _⟩)
                | (cases hx; exact ⟨Nat.le_succ _, Nat.le_add_right _ _⟩)
                | (cases hx; exact ⟨Nat.le_add_right _ _, Nat.le_add_right _ _⟩)
              )
          )
        | (rcases mifO_some hx with ⟨_, hx⟩ | ⟨_, hx⟩ <;> first
            | (cases hx; done)
            | (cases hx; exact ⟨Nat.le_refl _, Nat.le_refl _⟩)
            | (cases hx; exact ⟨Nat.le_succ _, Nat.le_add_right _ _⟩)
            | (cases hx; exact ⟨Nat.le_add_right _ _, Nat.le_add_right _ _⟩)
            | (have hx := (mckO_some hx).2; first
                | (cases hx; done)
                | (cases hx; exact ⟨Nat.le_refl _, Nat.le_refl _⟩)
                | (cases hx; exact ⟨Nat.le_succ _, Nat.le_add_right _ _⟩)
                | (cases hx; exact ⟨Nat.le_add_right _ _, Nat.le_add_right _ _⟩)
              )
            | (rcases mifO_some hx with ⟨_, hx⟩ | ⟨_, hx⟩ <;> first
                | (cases hx; done)
                | (cases hx; exact ⟨Nat.le_refl _, Nat.le_refl _⟩)
                | (cases hx; exact ⟨Nat.le_succ _, Nat.le_add_right _ _⟩)
                | (cases hx; exact ⟨Nat.le_add_right _ _, Nat.le_add_right _ _⟩)
              )
            | (split at hx <;> first
                | (cases hx; done)
                | (cases hx; exact ⟨Nat.le_refl _, Nat.le_refl _⟩)
                | (cases hx; exact ⟨Nat.le_succ _, Nat.le_add_right _ _⟩)
                | (cases hx; exact ⟨Nat.le_add_right _ _, Nat.le_add_right _ _⟩)
              )
          )
        | (split at hx <;> first
            | (cases hx; done)
            | (cases hx; exact ⟨Nat.le_refl _, Nat.le_refl _⟩)
            | (cases hx; exact ⟨Nat.le_succ _, Nat.le_add_right _ _⟩)
            | (cases hx; exact ⟨Nat.le_add_right _ _, Nat.le_add_right _ _⟩)
            | (have hx := (mckO_some hx).2; first
                | (cases hx; done)
                | (cases hx; exact ⟨Nat.le_refl _, Nat.le_refl _⟩)
                | (cases hx; exact ⟨Nat.le_succ _, Nat.le_add_right _ _⟩)
                | (cases hx; exact ⟨Nat.le_add_right _ _, Nat.le_add_right _ _⟩)
              )
            | (rcases mifO_some hx with ⟨_, hx⟩ | ⟨_, hx⟩ <;> first
                | (cases hx; done)
                | (cases hx; exact ⟨Nat.le_refl _, Nat.le_refl _⟩)
                | (cases hx; exact ⟨Nat.le_succ _, Nat.le_add_right _ _⟩)
                | (cases hx; exact ⟨Nat.le_add_right _ _, Nat.le_add_right _ _⟩)
              )
            | (split at hx <;> first
                | (cases hx; done)
                | (cases hx; exact ⟨Nat.le_refl _, Nat.le_refl _⟩)
                | (cases hx; exact ⟨Nat.le_succ _, Nat.le_add_right _ _⟩)
                | (cases hx; exact ⟨Nat.le_add_right _ _, Nat.le_add_right _ _⟩)
              )
          )
      )
    | skip
  all_goals done
set_option maxRecDepth 100000 in
set_option maxHeartbeats 8000000 in
theorem mxV_ge {own y n pc : Nat} {lo : mLo} {st : mSt} {h : mH} {x : mS} (hx : mxVF own y n pc lo st h = some x) : mGe h x := by
  unfold mxVF at hx
  split at hx
  all_goals first
    | (cases hx; done)
    | (cases hx; exact ⟨Nat.le_refl _, Nat.le_refl _⟩)
    | (cases hx; exact ⟨Nat.le_succ _, Nat.le_add_right _ _⟩)
    | (cases hx; exact ⟨Nat.le_add_right _ _, Nat.le_add_right _ _⟩)
    | exact mxS_ge hx
    | (have hx := (mckO_some hx).2; first
        | (cases hx; done)
        | (cases hx; exact ⟨Nat.le_refl _, Nat.le_refl _⟩)
        | (cases hx; exact ⟨Nat.le_succ _, Nat.le_add_right _ _⟩)
        | (cases hx; exact ⟨Nat.le_add_right _ _, Nat.le_add_right _ _⟩)
        | exact mxS_ge hx
        | (have hx := (mckO_some hx).2; first
            | (cases hx; done)
            | (cases hx; exact ⟨Nat.le_refl _, Nat.le_refl _⟩)
            | (cases hx; exact ⟨Nat.le_succ _, Nat.le_add_right _ _⟩)
            | (cases hx; exact ⟨Nat.le_add_right _ _, Nat.le_add_right _ _⟩)
            | exact mxS_ge hx
            | (have hx := (mckO_some hx).2; first
                | (cases hx; done)
                | (cases hx; exact ⟨Nat.le_refl _, Nat.le_refl _⟩)
                | (cases hx; exact ⟨Nat.le_succ _, Nat.le_add_right _ _⟩)
                | (cases hx; exact ⟨Nat.le_add_right _ _, Nat.le_add_right _ _⟩)
                | exact mxS_ge hx
              )
            | (rcases mifO_some hx with ⟨_, hx⟩ | ⟨_, hx⟩ <;> first
                | (cases hx; done)
                | (cases hx; exact ⟨Nat.le_refl _, Nat.le_refl _⟩)
                | (cases hx; exact ⟨Nat.le_succ _, Nat.le_add_right _ _⟩)
                | (cases hx; exact ⟨Nat.le_add_right _ _, Nat.le_add_right _ _⟩)
                | exact mxS_ge hx
              )
            | (split at hx <;> first
                | (cases hx; done)
                | (cases hx; exact ⟨Nat.le_refl _, Nat.le_refl _⟩)
                | (cases hx; exact ⟨Nat.le_succ _, Nat.le_add_right _ _⟩)
                | (cases hx; exact ⟨Nat.le_add_right _ _, Nat.le_add_right _ _⟩)
                | exact mxS_ge hx
              )
          )
        | (rcases mifO_some hx with ⟨_, hx⟩ | ⟨_, hx⟩ <;> first
            | (cases hx; done)
            | (cases hx; exact ⟨Nat.le_refl _, Nat.le_refl _⟩)
            | (cases hx; exact ⟨Nat.le_succ _, Nat.le_add_right _ _⟩)
            | (cases hx; exact ⟨Nat.le_add_right _ _, Nat.le_add_right _ _⟩)
            | exact mxS_ge hx
            | (have hx := (mckO_some hx).2; first
                | (cases hx; done)
                | (cases hx; exact ⟨Nat.le_refl _, Nat.le_refl _⟩)
                | (cases hx; exact ⟨Nat.le_succ _, Nat.le_add_right _ _⟩)
                | (cases hx; exact ⟨Nat.le_add_right _ _, Nat.le_add_right _ _⟩)
                | exact mxS_ge hx
              )
            | (rcases mifO_some hx with ⟨_, hx⟩ | ⟨_, hx⟩ <;> first
                | (cases hx; done)
                | (cases hx; exact ⟨Nat.le_refl _, Nat.le_refl _⟩)
                | (cases hx; exact ⟨Nat.le_succ _, Nat.le_add_right _ _⟩)
                | (cases hx; exact ⟨Nat.le_add_right _ _, Nat.le_add_right _ _⟩)
                | exact mxS_ge hx
              )
            | (split at hx <;> first
                | (cases hx; done)
                | (cases hx; exact ⟨Nat.le_refl _, Nat.le_refl _⟩)
                | (cases hx; exact ⟨Nat.le_succ _, Nat.le_add_right _ _⟩)
                | (cases hx; exact ⟨Nat.le_add_right _ _, Nat.le_add_right _ _⟩)
                | exact mxS_ge hx
              )
          )
        | (split at hx <;> first
            | (cases hx; done)
            | (cases hx; exact ⟨Nat.le_refl _, Nat.le_refl _⟩)
            | (cases hx; exact ⟨Nat.le_succ _, Nat.le_add_right _ _⟩)
            | (cases hx; exact ⟨Nat.le_add_right _ _, Nat.le_add_right _ _⟩)
            | exact mxS_ge hx
            | (have hx := (mckO_some hx).2; first
                | (cases hx; done)
                | (cases hx; exact ⟨Nat.le_refl _, Nat.le_refl _⟩)
                | (cases hx; exact ⟨Nat.le_succ _, Nat.le_add_right _ _⟩)
                | (cases hx; exact ⟨Nat.le_add_right _ _, Nat.le_add_right _ _⟩)
                | exact mxS_ge hx
              )
            | (rcases mifO_some hx with ⟨_, hx⟩ | ⟨_, hx⟩ <;> first
                | (cases hx; done)
                | (cases hx; exact ⟨Nat.le_refl _, Nat.le_refl _⟩)
                | (cases hx; exact ⟨Nat.le_succ _, Nat.le_add_right _ _⟩)
                | (cases hx; exact ⟨Nat.le_add_right _ _, Nat.le_add_right _ _⟩)
                | exact mxS_ge hx
              )
            | (split at hx <;> first
                | (cases hx; done)
                | (cases hx; exact ⟨Nat.le_refl _, Nat.le_refl _⟩)
                | (cases hx; exact ⟨Nat.le_succ _, Nat.le_add_right _ _⟩)
                | (cases hx; exact ⟨Nat.le_add_right _ _, Nat.le_add_right _ _⟩)
                | exact mxS_ge hx
              )
          )
      )
    | (rcases mifO_some hx with ⟨_, hx⟩ | ⟨_, hx⟩ <;> first
        | (cases hx; done)
        | (cases hx; exact ⟨Nat.le_refl _, Nat.le_refl _⟩)
        | (cases hx; exact ⟨Nat.le_succ _, Nat.le_add_right _ _⟩)
        | (cases hx; exact ⟨Nat.le_add_right _ _, Nat.le_add_right _ _⟩)
        | exact mxS_ge hx
        | (have hx := (mckO_some hx).2; first
            | (cases hx; done)
            | (cases hx; exact ⟨Nat.le_refl _, Nat.le_refl _⟩)
            | (cases hx; exact ⟨Nat.le_succ _, Nat.le_add_right _ _⟩)
            | (cases hx; exact ⟨Nat.le_add_right _ _, Nat.le_add_right _ _⟩)
            | exact mxS_ge hx
            | (have hx := (mckO_some hx).2; first
                | (cases hx; done)
                | (cases hx; exact ⟨Nat.le_refl _, Nat.le_refl _⟩)
                | (cases hx; exact ⟨Nat.le_succ _, Nat.le_add_right _ _⟩)
                | (cases hx; exact ⟨Nat.le_add_right _ _, Nat.le_add_right _ _⟩)
                | exact mxS_ge hx
              )
            | (rcases mifO_some hx with ⟨_, hx⟩ | ⟨_, hx⟩ <;> first
                | (cases hx; done)
                | (cases hx; exact ⟨Nat.le_refl _, Nat.le_refl _⟩)
                | (cases hx; exact ⟨Nat.le_succ _, Nat.le_add_right _ _⟩)
                | (cases hx; exact ⟨Nat.le_add_right _ _, Nat.le_add_right _ _⟩)
                | exact mxS_ge hx
              )
            | (split at hx <;> first
                | (cases hx; done)
                | (cases hx; exact ⟨Nat.le_refl _, Nat.le_refl _⟩)
                | (cases hx; exact ⟨Nat.le_succ _, Nat.le_add_right _ _⟩)
                | (cases hx; exact ⟨Nat.le_add_right _ _, Nat.le_add_right _ _⟩)
                | exact mxS_ge hx
              )
          )
        | (rcases mifO_some hx with ⟨_, hx⟩ | ⟨_, hx⟩ <;> first
            | (cases hx; done)
            | (cases hx; exact ⟨Nat.le_refl _, Nat.le_refl _⟩)
            | (cases hx; exact ⟨Nat.le_succ _, Nat.le_add_right _ _⟩)
            | (cases hx; exact ⟨Nat.le_add_right _ _, Nat.le_add_right _ _⟩)
            | exact mxS_ge hx
            | (have hx := (mckO_some hx).2; first
                | (cases hx; done)
                | (cases hx; exact ⟨Nat.le_refl _, Nat.le_refl _⟩)
                | (cases hx; exact ⟨Nat.le_succ _, Nat.le_add_right _ _⟩)
                | (cases hx; exact ⟨Nat.le_add_right _ _, Nat.le_add_right _ _⟩)
                | exact mxS_ge hx
              )
            | (rcases mifO_some hx with ⟨_, hx⟩ | ⟨_, hx⟩ <;> first
                | (cases hx; done)
                | (cases hx; exact ⟨Nat.le_refl _, Nat.le_refl _⟩)
                | (cases hx; exact ⟨Nat.le_succ _, Nat.le_add_right _ _⟩)
                | (cases hx; exact ⟨Nat.le_add_right _ _, Nat.le_add_right _ _⟩)
                | exact mxS_ge hx
              )
            | (split at hx <;> first
                | (cases hx; done)
                | (cases hx; exact ⟨Nat.le_refl _, Nat.le_refl _⟩)
                | (cases hx; exact ⟨Nat.le_succ _, Nat.le_add_right _ _⟩)
                | (cases hx; exact ⟨Nat.le_add_right _ _, Nat.le_add_right _ _⟩)
                | exact mxS_ge hx
              )
          )
        | (split at hx <;> first
            | (cases hx; done)
            | (cases hx; exact ⟨Nat.le_refl _, Nat.le_refl _⟩)
            | (cases hx; exact ⟨Nat.le_succ _, Nat.le_add_right _ _⟩)
            | (cases hx; exact ⟨Nat.le_add_right _ _, Nat.le_add_right _ _⟩)
            | exact mxS_ge hx
            | (have hx := (mckO_some hx).2; first
                | (cases hx; done)
                | (cases hx; exact ⟨Nat.le_refl _, Nat.le_refl _⟩)
                | (cases hx; exact ⟨Nat.le_succ _, Nat.le_add_right _ _⟩)
                | (cases hx; exact ⟨Nat.le_add_right _ _, Nat.le_add_right _ _⟩)
                | exact mxS_ge hx
              )
            | (rcases mifO_some hx with ⟨_, hx⟩ | ⟨_, hx⟩ <;> first
                | (cases hx; done)
                | (cases hx; exact ⟨Nat.le_refl _, Nat.le_refl _⟩)
                | (cases hx; exact ⟨Nat.le_succ _, Nat.le_add_right _ _⟩)
                | (cases hx; exact ⟨Nat.le_add_right _ _, Nat.le_add_right _ _⟩)
                | exact mxS_ge hx
              )
            | (split at hx <;> first
                | (cases hx; done)
                | (cases hx; exact ⟨Nat.le_refl _, Nat.le_refl _⟩)
                | (cases hx; exact ⟨Nat.le_succ _, Nat.le_add_right _ _⟩)
                | (cases hx; exact ⟨Nat.le_add_right _ _, Nat.le_add_right _ _⟩)
                | exact mxS_ge hx
              )
          )
      )
    | (split at hx <;> first
        | (cases hx; done)
        | (cases hx; exact ⟨Nat.le_refl _, Nat.le_refl _⟩)
        | (cases hx; exact ⟨Nat.le_succ _, Nat.le_add_right _ _⟩)
        | (cases hx; exact ⟨Nat.le_add_right _ _, Nat.le_add_right _ _⟩)
        | exact mxS_ge hx
        | (have hx := (mckO_some hx).2; first
            | (cases hx; done)
            | (cases hx; exact ⟨Nat.le_refl _, Nat.le_refl _⟩)
            | (cases hx; exact ⟨Nat.le_succ _, Nat.le_add_right _ _⟩)
            | (cases hx; exact ⟨Nat.le_add_right _ _, Nat.le_add_right _ _⟩)
            | exact mxS_ge hx
            | (have hx := (mckO_some hx).2; first
                | (cases hx; done)
                | (cases hx; exact ⟨Nat.le_refl _, Nat.le_refl _⟩)
                | (cases hx; exact ⟨Nat.le_succ _, Nat.le_add_right _ _⟩)
                | (cases hx; exact ⟨Nat.le_add_right _ _, Nat.le_add_right _ _⟩)
                | exact mxS_ge hx
              )
            | (rcases mifO_some hx with ⟨_, hx⟩ | ⟨_, hx⟩ <;> first
                | (cases hx; done)
                | (cases hx; exact ⟨Nat.le_refl _, Nat.le_refl _⟩)
                | (cases hx; exact ⟨Nat.le_succ _, Nat.le_add_right _ _⟩)
                | (cases hx; exact ⟨Nat.le_add_right _ _, Nat.le_add_right _ _⟩)
                | exact mxS_ge hx
              )
            | (split at hx <;> first
                | (cases hx; done)
                | (cases hx; exact ⟨Nat.le_refl _, Nat.le_refl _⟩)
                | (cases hx; exact ⟨Nat.le_succ _, Nat.le_add_right _ _⟩)
                | (cases hx; exact ⟨Nat.le_add_right _ _, Nat.le_add_right _ _⟩)
                | exact mxS_ge hx
              )
          )
        | (rcases mifO_some hx with ⟨_, hx⟩ | ⟨_, hx⟩ <;> first
            | (cases hx; done)
            | (cases hx; exact ⟨Nat.le_refl _, Nat.le_refl _⟩)
            | (cases hx; exact ⟨Nat.le_succ _, Nat.le_add_right _ _⟩)
            | (cases hx; exact ⟨Nat.le_add_right _ _, Nat.le_add_right _ _⟩)
            | exact mxS_ge hx
            | (have hx := (mckO_some hx).2; first
                | (cases hx; done)
                | (cases hx; exact ⟨Nat.le_refl _, Nat.le_refl _⟩)
                | (cases hx; exact ⟨Nat.le_succ _, Nat.le_add_right _ _⟩)
                | (cases hx; exact ⟨Nat.le_add_right _ _, Nat.le_add_right _ _⟩)
                | exact mxS_ge hx
              )
            | (rcases mifO_some hx with ⟨_, hx⟩ | ⟨_, hx⟩ <;> first
                | (cases hx; done)
                | (cases hx; exact ⟨Nat.le_refl _, Nat.le_refl _⟩)
                | (cases hx; exact ⟨Nat.le_succ _, Nat.le_add_right _ _⟩)
                | (cases hx; exact ⟨Nat.le_add_right _ _, Nat.le_add_right _ _⟩)
                | exact mxS_ge hx
              )
            | (split at hx <;> first
                | (cases hx; done)
                | (cases hx; exact ⟨Nat.le_refl _, Nat.le_refl _⟩)
                | (cases hx; exact ⟨Nat.le_succ _, Nat.le_add_right _ _⟩)
                | (cases hx; exact ⟨Nat.le_add_right _ _, Nat.le_add_right _ _⟩)
                | exact mxS_ge hx
              )
          )
        | (split at hx <;> first
            | (cases hx; done)
            | (cases hx; exact ⟨Nat.le_refl _, Nat.le_refl _⟩)
            | (cases hx; exact ⟨Nat.le_succ _, Nat.le_add_right _ _⟩)
            | (cases hx; exact ⟨Nat.le_add_right _ _, Nat.le_add_right _ _⟩)
            | exact mxS_ge hx
            | (have hx := (mckO_some hx).2; first
                | (cases hx; done)
                | (cases hx; exact ⟨Nat.le_refl _, Nat.le_refl _⟩)
                | (cases hx; exact ⟨Nat.le_succ _, Nat.le_add_right _ _⟩)
                | (cases hx; exact ⟨Nat.le_add_right _ _, Nat.le_add_right _ _⟩)
                | exact mxS_ge hx
              )
            | (rcases mifO_some hx with ⟨_, hx⟩ | ⟨_, hx⟩ <;> first
                | (cases hx; done)
                | (cases hx; exact ⟨Nat.le_refl _, Nat.le_refl _⟩)
                | (cases hx; exact ⟨Nat.le_succ _, Nat.le_add_right _ _⟩)
                | (cases hx; exact ⟨Nat.le_add_right _ _, Nat.le_add_right _ _⟩)
                | exact mxS_ge hx
              )
            | (split at hx <;> first
                | (cases hx; done)
                | (cases hx; exact ⟨Nat.le_refl _, Nat.le_refl _⟩)
                | (cases hx; exact ⟨Nat.le_succ _, Nat.le_add_right _ _⟩)
                | (cases hx; exact ⟨Nat.le_add_right _ _, Nat.le_add_right _ _⟩)
                | exact mxS_ge hx
              )
          )
      )
    | skip
  all_goals done
set_option maxRecDepth 100000 in
set_option maxHeartbeats 8000000 in
theorem mxB_ge {y pc : Nat} {lo : mLo} {st : mSt} {h : mH} {x : mS} (hx : mxBF y pc lo st h = some x) : mGe h x := by
  unfold mxBF at hx
  split at hx
  all_goals first
    | (cases hx; done)
    | (cases hx; exact ⟨Nat.le_refl _, Nat.le_refl _⟩)
    | (cases hx; exact ⟨Nat.le_succ _, Nat.le_add_right _ _⟩)
    | (cases hx; exact ⟨Nat.le_add_right _ _, Nat.le_add_right _ _⟩)
    | (have hx := (mckO_some hx).2; first
        | (cases hx; done)
        | (cases hx; exact ⟨Nat.le_refl _, Nat.le_refl _⟩)
        | (cases hx; exact ⟨Nat.le_succ _, Nat.le_add_right _ _⟩)
        | (cases hx; exact ⟨Nat.le_add_right _ _, Nat.le_add_right _ _⟩)
        | (have hx := (mckO_some hx).2; first
            | (cases hx; done)
            | (cases hx; exact ⟨Nat.le_refl _, Nat.le_refl _⟩)
            | (cases hx; exact ⟨Nat.le_succ _, Nat.le_add_right _ _⟩)
            | (cases hx; exact ⟨Nat.le_add_right _ _, Nat.le_add_right _ _⟩)
          )
        | (rcases mifO_some hx with ⟨_, hx⟩ | ⟨_, hx⟩ <;> first
            | (cases hx; done)
            | (cases hx; exact ⟨Nat.le_refl _, Nat.le_refl _⟩)
            | (cases hx; exact ⟨Nat.le_succ _, Nat.le_add_right _ _⟩)
            | (cases hx; exact ⟨Nat.le_add_right _ _, Nat.le_add_right _ _⟩)
          )
        | (split at hx <;> first
            | (cases hx; done)
            | (cases hx; exact ⟨Nat.le_refl _, Nat.le_refl _⟩)
            | (cases hx; exact ⟨Nat.le_succ _, Nat.le_add_right _ _⟩)
            | (cases hx; exact ⟨Nat.le_add_right _ _, Nat.le_add_right _ _⟩)
          )
      )
    | (rcases mifO_some hx with ⟨_, hx⟩ | ⟨_, hx⟩ <;> first
        | (cases hx; done)
        | (cases hx; exact ⟨Nat.le_refl _, Nat.le_refl _⟩)
        | (cases hx; exact ⟨Nat.le_succ _, Nat.le_add_right _ _⟩)
        | (cases hx; exact ⟨Nat.le_add_right _ _, Nat.le_add_right _ _⟩)
        | (have hx := (mckO_some hx).2; first
            | (cases hx; done)
            | (cases hx; exact ⟨Nat.le_refl _, Nat.le_refl _⟩)
            | (cases hx; exact ⟨Nat.le_succ _, Nat.le_add_right _ _⟩)
            | (cases hx; exact ⟨Nat.le_add_right _ _, Nat.le_add_right _ _⟩)
          )
        | (rcases mifO_some hx with ⟨_, hx⟩ | ⟨_, hx⟩ <;> first
            | (cases hx; done)
            | (cases hx; exact ⟨Nat.le_refl _, Nat.le_refl _⟩)
            | (cases hx; exact ⟨Nat.le_succ _, Nat.le_add_right _ _⟩)
            | (cases hx; exact ⟨Nat.le_add_right _ _, Nat.le_add_right _ _⟩)
          )
        | (split at hx <;> first
            | (cases hx; done)
            | (cases hx; exact ⟨Nat.le_refl _, Nat.le_refl _⟩)
            | (cases hx; exact ⟨Nat.le_succ _, Nat.le_add_right _ _⟩)
            | (cases hx; exact ⟨Nat.le_add_right _ _, Nat.le_add_right _ _⟩)
          )
      )
    | (split at hx <;> first
        | (cases hx; done)
        | (cases hx; exact ⟨Nat.le_refl _, Nat.le_refl _⟩)
        | (cases hx; exact ⟨Nat.le_succ _, Nat.le_add_right _ _⟩)
        | (cases hx; exact ⟨Nat.le_add_right _ _, Nat.le_add_right _ _⟩)
        | (have hx := (mckO_some hx).2; first
            | (cases hx; done)
            | (cases hx; exact ⟨Nat.le_refl _, Nat.le_refl _⟩)
            | (cases hx; exact ⟨Nat.le_succ _, Nat.le_add_right _ _⟩)
            | (cases hx; exact ⟨Nat.le_add_right _ _, Nat.le_add_right _ _⟩)
          )
        | (rcases mifO_some hx with ⟨_, hx⟩ | ⟨_, hx⟩ <;> first
            | (cases hx; done)
            | (cases hx; exact ⟨Nat.le_refl _, Nat.le_refl _⟩)
            | (cases hx; exact ⟨Nat.le_succ _, Nat.le_add_right _ _⟩)
            | (cases hx; exact ⟨Nat.le_add_right _ _, Nat.le_add_right _ _⟩)
          )
        | (split at hx <;> first
            | (cases hx; done)
            | (cases hx; exact ⟨Nat.le_refl _, Nat.le_refl _⟩)
            | (cases hx; exact ⟨Nat.le_succ _, Nat.le_add_right _ _⟩)
            | (cases hx; exact ⟨Nat.le_add_right _ _, Nat.le_add_right _ _⟩)
          )
      )
    | skip
  all_goals done
set_option maxRecDepth 100000 in
set_option maxHeartbeats 8000000 in
theorem mxI_ge {y pc : Nat} {lo : mLo} {st : mSt} {h : mH} {x : mS} (hx : mxIF y pc lo st h = some x) : mGe h x := by
  unfold mxIF at hx
  split at hx
  all_goals first
    | (cases hx; done)
    | (cases hx; exact ⟨Nat.le_refl _, Nat.le_refl _⟩)
    | (cases hx; exact ⟨Nat.le_succ _, Nat.le_add_right _ _⟩)
    | (cases hx; exact ⟨Nat.le_add_right _ _, Nat.le_add_right _ _⟩)
    | (have hx := (mckO_some hx).2; first
        | (cases hx; done)
        | (cases hx; exact ⟨Nat.le_refl _, Nat.le_refl _⟩)
        | (cases hx; exact ⟨Nat.le_succ _, Nat.le_add_right _ _⟩)
        | (cases hx; exact ⟨Nat.le_add_right _ _, Nat.le_add_right _ _⟩)
        | (have hx := (mckO_some hx).2; first
            | (cases hx; done)
            | (cases hx; exact ⟨Nat.le_refl _, Nat.le_refl _⟩)
            | (cases hx; exact ⟨Nat.le_succ _, Nat.le_add_right _ _⟩)
            | (cases hx; exact ⟨Nat.le_add_right _ _, Nat.le_add_right _ _⟩)
          )
        | (rcases mifO_some hx with ⟨_, hx⟩ | ⟨_, hx⟩ <;> first
            | (cases hx; done)
            | (cases hx; exact ⟨Nat.le_refl _, Nat.le_refl _⟩)
            | (cases hx; exact ⟨Nat.le_succ _, Nat.le_add_right _ _⟩)
            | (cases hx; exact ⟨Nat.le_add_right _ _, Nat.le_add_right _ _⟩)
          )
        | (split at hx <;> first
            | (cases hx; done)
            | (cases hx; exact ⟨Nat.le_refl _, Nat.le_refl _⟩)
            | (cases hx; exact ⟨Nat.le_succ _, Nat.le_add_right _ _⟩)
            | (cases hx; exact ⟨Nat.le_add_right _ _, Nat.le_add_right _ _⟩)
          )
      )
    | (rcases mifO_some hx with ⟨_, hx⟩ | ⟨_, hx⟩ <;> first
        | (cases hx; done)
        | (cases hx; exact ⟨Nat.le_refl _, Nat.le_refl _⟩)
        | (cases hx; exact ⟨Nat.le_succ _, Nat.le_add_right _ _⟩)
        | (cases hx; exact ⟨Nat.le_add_right _ _, Nat.le_add_right _ _⟩)
        | (have hx := (mckO_some hx).2; first
            | (cases hx; done)
            | (cases hx; exact ⟨Nat.le_refl _, Nat.le_refl _⟩)
            | (cases hx; exact ⟨Nat.le_succ _, Nat.le_add_right _ _⟩)
            | (cases hx; exact ⟨Nat.le_add_right _ _, Nat.le_add_right _ _⟩)
          )
        | (rcases mifO_some hx with ⟨_, hx⟩ | ⟨_, hx⟩ <;> first
            | (cases hx; done)
            | (cases hx; exact ⟨Nat.le_refl _, Nat.le_refl _⟩)
            | (cases hx; exact ⟨Nat.le_succ _, Nat.le_add_right _ _⟩)
            | (cases hx; exact ⟨Nat.le_add_right _ _, Nat.le_add_right _ _⟩)
          )
        | (split at hx <;> first
            | (cases hx; done)
            | (cases hx; exact ⟨Nat.le_refl _, Nat.le_refl _⟩)
            | (cases hx; exact ⟨Nat.le_succ _, Nat.le_add_right _ _⟩)
            | (cases hx; exact ⟨Nat.le_add_right _ _, Nat.le_add_right _ _⟩)
          )
      )
    | (split at hx <;> first
        | (cases hx; done)
        | (cases hx; exact ⟨Nat.le_refl _, Nat.le_refl _⟩)
        | (cases hx; exact ⟨Nat.le_succ _, Nat.le_add_right _ _⟩)
        | (cases hx; exact ⟨Nat.le_add_right _ _, Nat.le_add_right _ _⟩)
        | (have hx := (mckO_some hx).2; first
            | (cases hx; done)
            | (cases hx; exact ⟨Nat.le_refl _, Nat.le_refl _⟩)
            | (cases hx; exact ⟨Nat.le_succ _, Nat.le_add_right _ _⟩)
            | (cases hx; exact ⟨Nat.le_add_right _ _, Nat.le_add_right _ _⟩)
          )
        | (rcases mifO_some hx with ⟨_, hx⟩ | ⟨_, hx⟩ <;> first
            | (cases hx; done)
            | (cases hx; exact ⟨Nat.le_refl _, Nat.le_refl _⟩)
            | (cases hx; exact ⟨Nat.le_succ _, Nat.le_add_right _ _⟩)
            | (cases hx; exact ⟨Nat.le_add_right _ _, Nat.le_add_right _ _⟩)
          )
        | (split at hx <;> first
            | (cases hx; done)
            | (cases hx; exact ⟨Nat.le_refl _, Nat.le_refl _⟩)
            | (cases hx; exact ⟨Nat.le_succ _, Nat.le_add_right _ _⟩)
            | (cases hx; exact ⟨Nat.le_add_right _ _, Nat.le_add_right _ _⟩)
          )
      )
    | skip
  all_goals done
set_option maxRecDepth 100000 in
set_option maxHeartbeats 8000000 in
theorem mxP_ge {own y n pc : Nat} {lo : mLo} {st : mSt} {h : mH} {x : mS} (hx : mxPF own y n pc lo st h = some x) : mGe h x := by
  unfold mxPF at hx
  split at hx
  all_goals first
    | (cases hx; done)
    | (cases hx; exact ⟨Nat.le_refl _, Nat.le_refl _⟩)
    | (cases hx; exact ⟨Nat.le_succ _, Nat.le_add_right _ _⟩)
    | (cases hx; exact ⟨Nat.le_add_right _ _, Nat.le_add_right _ _⟩)
    | (have hx := (mckO_some hx).2; first
        | (cases hx; done)
        | (cases hx; exact ⟨Nat.le_refl _, Nat.le_refl _⟩)
        | (cases hx; exact ⟨Nat.le_succ _, Nat.le_add_right _ _⟩)
        | (cases hx; exact ⟨Nat.le_add_right _ _, Nat.le_add_right _ _⟩)
        | (have hx := (mckO_some hx).2; first
            | (cases hx; done)
            | (cases hx; exact ⟨Nat.le_refl _, Nat.le_refl _⟩)
            | (cases hx; exact ⟨Nat.le_succ _, Nat.le_add_right _ _⟩)
            | (cases hx; exact ⟨Nat.le_add_right _ _, Nat.le_add_right _ _⟩)
          )
        | (rcases mifO_some hx with ⟨_, hx⟩ | ⟨_, hx⟩ <;> first
            | (cases hx; done)
            | (cases hx; exact ⟨Nat.le_refl _, Nat.le_refl _⟩)
            | (cases hx; exact ⟨Nat.le_succ _, Nat.le_add_right _ _⟩)
            | (cases hx; exact ⟨Nat.le_add_right _ _, Nat.le_add_right _ _⟩)
          )
        | (split at hx <;> first
            | (cases hx; done)
            | (cases hx; exact ⟨Nat.le_refl _, Nat.le_refl _⟩)
            | (cases hx; exact ⟨Nat.le_succ _, Nat.le_add_right _ _⟩)
            | (cases hx; exact ⟨Nat.le_add_right _ _, Nat.le_add_right _ _⟩)
          )
      )
    | (rcases mifO_some hx with ⟨_, hx⟩ | ⟨_, hx⟩ <;> first
        | (cases hx; done)
        | (cases hx; exact ⟨Nat.le_refl _, Nat.le_refl _⟩)
        | (cases hx; exact ⟨Nat.le_succ _, Nat.le_add_right _ _⟩)
        | (cases hx; exact ⟨Nat.le_add_right _ _, Nat.le_add_right _ _⟩)
        | (have hx := (mckO_some hx).2; first
            | (cases hx; done)
            | (cases hx; exact ⟨Nat.le_refl _, Nat.le_refl _⟩)
            | (cases hx; exact ⟨Nat.le_succ _, Nat.le_add_right _ _⟩)
            | (cases hx; exact ⟨Nat.le_add_right _ _, Nat.le_add_right _ _⟩)
          )
        | (rcases mifO_some hx with ⟨_, hx⟩ | ⟨_, hx⟩ <;> first
            | (cases hx; done)
            | (cases hx; exact ⟨Nat.le_refl _, Nat.le_refl _⟩)
            | (cases hx; exact ⟨Nat.le_succ _, Nat.le_add_right _ _⟩)
            | (cases hx; exact ⟨Nat.le_add_right _ _, Nat.le_add_right _ _⟩)
          )
        | (split at hx <;> first
            | (cases hx; done)
            | (cases hx; exact ⟨Nat.le_refl _, Nat.le_refl _⟩)
            | (cases hx; exact ⟨Nat.le_succ _, Nat.le_add_right _ _⟩)
            | (cases hx; exact ⟨Nat.le_add_right _ _, Nat.le_add_right _ _⟩)
          )
      )
    | (split at hx <;> first
        | (cases hx; done)
        | (cases hx; exact ⟨Nat.le_refl _, Nat.le_refl _⟩)
        | (cases hx; exact ⟨Nat.le_succ _, Nat.le_add_right _ _⟩)
        | (cases hx; exact ⟨Nat.le_add_right _ _, Nat.le_add_right _ _⟩)
        | (have hx := (mckO_some hx).2; first
            | (cases hx; done)
            | (cases hx; exact ⟨Nat.le_refl _, Nat.le_refl _⟩)
            | (cases hx; exact ⟨Nat.le_succ _, Nat.le_add_right _ _⟩)
            | (cases hx; exact ⟨Nat.le_add_right _ _, Nat.le_add_right _ _⟩)
          )
        | (rcases mifO_some hx with ⟨_, hx⟩ | ⟨_, hx⟩ <;> first
            | (cases hx; done)
            | (cases hx; exact ⟨Nat.le_refl _, Nat.le_refl _⟩)
            | (cases hx; exact ⟨Nat.le_succ _, Nat.le_add_right _ _⟩)
            | (cases hx; exact ⟨Nat.le_add_right _ _, Nat.le_add_right _ _⟩)
          )
        | (split at hx <;> first
            | (cases hx; done)
            | (cases hx; exact ⟨Nat.le_refl _, Nat.le_refl _⟩)
            | (cases hx; exact ⟨Nat.le_succ _, Nat.le_add_right _ _⟩)
            | (cases hx; exact ⟨Nat.le_add_right _ _, Nat.le_add_right _ _⟩)
          )
      )
    | skip
  all_goals done
set_option maxRecDepth 100000 in
set_option maxHeartbeats 8000000 in
theorem mxC_ge {own m pc : Nat} {ins : Instr} {lo : mLo} {st : mSt} {h : mH} {x : mS} (hx : mxCF own m pc ins lo st h = some x) : mGe h x := by
  unfold mxCF at hx
  split at hx
  all_goals first
    | (cases hx; done)
    | (cases hx; exact ⟨Nat.le_refl _, Nat.le_refl _⟩)
    | (cases hx; exact ⟨Nat.le_succ _, Nat.le_add_right _ _⟩)
    | (cases hx; exact ⟨Nat.le_add_right _ _, Nat.le_add_right _ _⟩)
    | exact mxK_ge hx
    | exact mxV_ge hx
    | exact mxB_ge hx
    | exact mxI_ge hx
    | exact mxP_ge hx
    | (have hx := (mckO_some hx).2; first
        | (cases hx; done)
        | (cases hx; exact ⟨Nat.le_refl _, Nat.le_refl _⟩)
        | (cases hx; exact ⟨Nat.le_succ _, Nat.le_add_right _ _⟩)
        | (cases hx; exact ⟨Nat.le_add_right _ _, Nat.le_add_right _ _⟩)
        | exact mxK_ge hx
        | exact mxV_ge hx
        | exact mxB_ge hx
        | exact mxI_ge hx
        | exact mxP_ge hx
        | (have hx := (mckO_some hx).2; first
            | (cases hx; done)
            | (cases hx; exact ⟨Nat.le_refl _, Nat.le_refl _⟩)
            | (cases hx; exact ⟨Nat.le_succ _, Nat.le_add_right _ _⟩)
            | (cases hx; exact ⟨Nat.le_add_right _ _, Nat.le_add_right _ _⟩)
            | exact mxK_ge hx
            | exact mxV_ge hx
            | exact mxB_ge hx
            | exact mxI_ge hx
            | exact mxP_ge hx
            | (have hx := (mckO_some hx).2; first
                | (cases hx; done)
                | (cases hx; exact ⟨Nat.le_refl _, Nat.le_refl _⟩)
                | (cases hx; exact ⟨Nat.le_succ _, Nat.le_add_right _ _⟩)
                | (cases hx; exact ⟨Nat.le_add_right _ _, Nat.le_add_right _ _⟩)
                | exact mxK_ge hx
                | exact mxV_ge hx
                | exact mxB_ge hx
                | exact mxI_ge hx
                | exact mxP_ge hx
              )
            | (rcases mifO_some hx with ⟨_, hx⟩ | ⟨_, hx⟩ <;> first
                | (cases hx; done)
                | (cases hx; exact ⟨Nat.le_refl _, Nat.le_refl _⟩)
                | (cases hx; exact ⟨Nat.le_succ _, Nat.le_add_right _ _⟩)
                | (cases hx; exact ⟨Nat.le_add_right _ _, Nat.le_add_right _ _⟩)
                | exact mxK_ge hx
                | exact mxV_ge hx
                | exact mxB_ge hx
                | exact mxI_ge hx
                | exact mxP_ge hx
              )
            | (split at hx <;> first
                | (cases hx; done)
                | (cases hx; exact ⟨Nat.le_refl _, Nat.le_refl _⟩)
                | (cases hx; exact ⟨Nat.le_succ _, Nat.le_add_right _ _⟩)
                | (cases hx; exact ⟨Nat.le_add_right _ _, Nat.le_add_right _ _⟩)
                | exact mxK_ge hx
                | exact mxV_ge hx
                | exact mxB_ge hx
                | exact mxI_ge hx
                | exact mxP_ge hx
              )
          )
        | (rcases mifO_some hx with ⟨_, hx⟩ | ⟨_, hx⟩ <;> first
            | (cases hx; done)
            | (cases hx; exact ⟨Nat.le_refl _, Nat.le_refl _⟩)
            | (cases hx; exact ⟨Nat.le_succ _, Nat.le_add_right _ _⟩)
            | (cases hx; exact ⟨Nat.le_add_right _ _, Nat.le_add_right _ _⟩)
            | exact mxK_ge hx
            | exact mxV_ge hx
            | exact mxB_ge hx
            | exact mxI_ge hx
            | exact mxP_ge hx
            | (have hx := (mckO_some hx).2; first
                | (cases hx; done)
                | (cases hx; exact ⟨Nat.le_refl _, Nat.le_refl _⟩)
                | (cases hx; exact ⟨Nat.le_succ _, Nat.le_add_right _ _⟩)
                | (cases hx; exact ⟨Nat.le_add_right _ _, Nat.le_add_right _ _⟩)
                | exact mxK_ge hx
                | exact mxV_ge hx
                | exact mxB_ge hx
                | exact mxI_ge hx
                | exact mxP_ge hx
              )
            | (rcases mifO_some hx with ⟨_, hx⟩ | ⟨_, hx⟩ <;> first
                | (cases hx; done)
                | (cases hx; exact ⟨Nat.le_refl _, Nat.le_refl _⟩)
                | (cases hx; exact ⟨Nat.le_succ _, Nat.le_add_right _ _⟩)
                | (cases hx; exact ⟨Nat.le_add_right _ _, Nat.le_add_right _ _⟩)
                | exact mxK_ge hx
                | exact mxV_ge hx
                | exact mxB_ge hx
                | exact mxI_ge hx
                | exact mxP_ge hx
              )
            | (split at hx <;> first
                | (cases hx; done)
                | (cases hx; exact ⟨Nat.le_refl _, Nat.le_refl _⟩)
                | (cases hx; exact ⟨Nat.le_succ _, Nat.le_add_right _ _⟩)
                | (cases hx; exact ⟨Nat.le_add_right _ _, Nat.le_add_right _ _⟩)
                | exact mxK_ge hx
                | exact mxV_ge hx
                | exact mxB_ge hx
                | exact mxI_ge hx
                | exact mxP_ge hx
              )
          )
        | (split at hx <;> first
            | (cases hx; done)
            | (cases hx; exact ⟨Nat.le_refl _, Nat.le_refl _⟩)
            | (cases hx; exact ⟨Nat.le_succ _, Nat.le_add_right _ _⟩)
            | (cases hx; exact ⟨Nat.le_add_right _ _, Nat.le_add_right _ _⟩)
            | exact mxK_ge hx
            | exact mxV_ge hx
            | exact mxB_ge hx
            | exact mxI_ge hx
            | exact mxP_ge hx
            | (have hx := (mckO_some hx).2; first
                | (cases hx; done)
                | (cases hx; exact ⟨Nat.le_refl _, Nat.le_refl _⟩)
                | (cases hx; exact ⟨Nat.le_succ _, Nat.le_add_right _ _⟩)
                | (cases hx; exact ⟨Nat.le_add_right _ _, Nat.le_add_right _ _⟩)
                | exact mxK_ge hx
                | exact mxV_ge hx
                | exact mxB_ge hx
                | exact mxI_ge hx
                | exact mxP_ge hx
              )
            | (rcases mifO_some hx with ⟨_, hx⟩ | ⟨_, hx⟩ <;> first
                | (cases hx; done)
                | (cases hx; exact ⟨Nat.le_refl _, Nat.le_refl _⟩)
                | (cases hx; exact ⟨Nat.le_succ _, Nat.le_add_right _ _⟩)
                | (cases hx; exact ⟨Nat.le_add_right _ _, Nat.le_add_right _ _⟩)
                | exact mxK_ge hx
                | exact mxV_ge hx
                | exact mxB_ge hx
                | exact mxI_ge hx
                | exact mxP_ge hx
              )
            | (split at hx <;> first
                | (cases hx; done)
                | (cases hx; exact ⟨Nat.le_refl _, Nat.le_refl _⟩)
                | (cases hx; exact ⟨Nat.le_succ _, Nat.le_add_right _ _⟩)
                | (cases hx; exact ⟨Nat.le_add_right _ _, Nat.le_add_right _ _⟩)
                | exact mxK_ge hx
                | exact mxV_ge hx
                | exact mxB_ge hx
                | exact mxI_ge hx
                | exact mxP_ge hx
              )
          )
      )
    | (rcases mifO_some hx with ⟨_, hx⟩ | ⟨_, hx⟩ <;> first
        | (cases hx; done)
        | (cases hx; exact ⟨Nat.le_refl _, Nat.le_refl _⟩)
        | (cases hx; exact ⟨Nat.le_succ _, Nat.le_add_right _ _⟩)
        | (cases hx; exact ⟨Nat.le_add_right _ _, Nat.le_add_right _ _⟩)
        | exact mxK_ge hx
        | exact mxV_ge hx
        | exact mxB_ge hx
        | exact mxI_ge hx
        | exact mxP_ge hx
        | (have hx := (mckO_some hx).2; first
            | (cases hx; done)
            | (cases hx; exact ⟨Nat.le_refl _, Nat.le_refl _⟩)
            | (cases hx; exact ⟨Nat.le_succ _, Nat.le_add_right _ _⟩)
            | (cases hx; exact ⟨Nat.le_add_right _ _, Nat.le_add_right _ _⟩)
            | exact mxK_ge hx
            | exact mxV_ge hx
            | exact mxB_ge hx
            | exact mxI_ge hx
            | exact mxP_ge hx
            | (have hx := (mckO_some hx).2; first
                | (cases hx; done)
                | (cases hx; exact ⟨Nat.le_refl _, Nat.le_refl _⟩)
                | (cases hx; exact ⟨Nat.le_succ _, Nat.le_add_right _ _⟩)
                | (cases hx; exact ⟨Nat.le_add_right _ _, Nat.le_add_right _ _⟩)
                | exact mxK_ge hx
                | exact mxV_ge hx
                | exact mxB_ge hx
                | exact mxI_ge hx
                | exact mxP_ge hx
              )
            | (rcases mifO_some hx with ⟨_, hx⟩ | ⟨_, hx⟩ <;> first
                | (cases hx; done)
                | (cases hx; exact ⟨Nat.le_refl _, Nat.le_refl _⟩)
                | (cases hx; exact ⟨Nat.le_succ _, Nat.le_add_right _ _⟩)
                | (cases hx; exact ⟨Nat.le_add_right _ _, Nat.le_add_right _ _⟩)
                | exact mxK_ge hx
                | exact mxV_ge hx
                | exact mxB_ge hx
                | exact mxI_ge hx
                | exact mxP_ge hx
              )
            | (split at hx <;> first
                | (cases hx; done)
                | (cases hx; exact ⟨Nat.le_refl _, Nat.le_refl _⟩)
                | (cases hx; exact ⟨Nat.le_succ _, Nat.le_add_right _ _⟩)
                | (cases hx; exact ⟨Nat.le_add_right _ _, Nat.le_add_right _ _⟩)
                | exact mxK_ge hx
                | exact mxV_ge hx
                | exact mxB_ge hx
                | exact mxI_ge hx
                | exact mxP_ge hx
              )
          )
        | (rcases mifO_some hx with ⟨_, hx⟩ | ⟨_, hx⟩ <;> first
            | (cases hx; done)
            | (cases hx; exact ⟨Nat.le_refl _, Nat.le_refl _⟩)
            | (cases hx; exact ⟨Nat.le_succ _, Nat.le_add_right _ _⟩)
            | (cases hx; exact ⟨Nat.le_add_right _ _, Nat.le_add_right _ _⟩)
            | exact mxK_ge hx
            | exact mxV_ge hx
            | exact mxB_ge hx
            | exact mxI_ge hx
            | exact mxP_ge hx
            | (have hx := (mckO_some hx).2; first
                | (cases hx; done)
                | (cases hx; exact ⟨Nat.le_refl _, Nat.le_refl _⟩)
                | (cases hx; exact ⟨Nat.le_succ _, Nat.le_add_right _ _⟩)
                | (cases hx; exact ⟨Nat.le_add_right _ _, Nat.le_add_right _ _⟩)
                | exact mxK_ge hx
                | exact mxV_ge hx
                | exact mxB_ge hx
                | exact mxI_ge hx
                | exact mxP_ge hx
              )
            | (rcases mifO_some hx with ⟨_, hx⟩ | ⟨_, hx⟩ <;> first
                | (cases hx; done)
                | (cases hx; exact ⟨Nat.le_refl _, Nat.le_refl _⟩)
                | (cases hx; exact ⟨Nat.le_succ _, Nat.le_add_right _ _⟩)
                | (cases hx; exact ⟨Nat.le_add_right _ _, Nat.le_add_right _ _⟩)
                | exact mxK_ge hx
                | exact mxV_ge hx
                | exact mxB_ge hx
                | exact mxI_ge hx
                | exact mxP_ge hx
              )
            | (split at hx <;> first
                | (cases hx; done)
                | (cases hx; exact ⟨Nat.le_refl _, Nat.le_refl _⟩)
                | (cases hx; exact ⟨Nat.le_succ _, Nat.le_add_right _ _⟩)
                | (cases hx; exact ⟨Nat.le_add_right _ _, Nat.le_add_right _ _⟩)
                | exact mxK_ge hx
                | exact mxV_ge hx
                | exact mxB_ge hx
                | exact mxI_ge hx
                | exact mxP_ge hx
              )
          )
        | (split at hx <;> first
            | (cases hx; done)
            | (cases hx; exact ⟨Nat.le_refl _, Nat.le_refl _⟩)
            | (cases hx; exact ⟨Nat.le_succ _, Nat.le_add_right _ _⟩)
            | (cases hx; exact ⟨Nat.le_add_right _ _, Nat.le_add_right _ _⟩)
            | exact mxK_ge hx
            | exact mxV_ge hx
            | exact mxB_ge hx
            | exact mxI_ge hx
            | exact mxP_ge hx
            | (have hx := (mckO_some hx).2; first
                | (cases hx; done)
                | (cases hx; exact ⟨Nat.le_refl _, Nat.le_refl _⟩)
                | (cases hx; exact ⟨Nat.le_succ _, Nat.le_add_right _ _⟩)
                | (cases hx; exact ⟨Nat.le_add_right _ _, Nat.le_add_right _ _⟩)
                | exact mxK_ge hx
                | exact mxV_ge hx
                | exact mxB_ge hx
                | exact mxI_ge hx
                | exact mxP_ge hx
              )
            | (rcases mifO_some hx with ⟨_, hx⟩ | ⟨_, hx⟩ <;> first
                | (cases hx; done)
                | (cases hx; exact ⟨Nat.le_refl _, Nat.le_refl _⟩)
                | (cases hx; exact ⟨Nat.le_succ _, Nat.le_add_right _ _⟩)
                | (cases hx; exact ⟨Nat.le_add_right _ _, Nat.le_add_right _ _⟩)
                | exact mxK_ge hx
                | exact mxV_ge hx
                | exact mxB_ge hx
                | exact mxI_ge hx
                | exact mxP_ge hx
              )
            | (split at hx <;> first
                | (cases hx; done)
                | (cases hx; exact ⟨Nat.le_refl _, Nat.le_refl _⟩)
                | (cases hx; exact ⟨Nat.le_succ _, Nat.le_add_right _ _⟩)
                | (cases hx; exact ⟨Nat.le_add_right _ _, Nat.le_add_right _ _⟩)
                | exact mxK_ge hx
                | exact mxV_ge hx
                | exact mxB_ge hx
                | exact mxI_ge hx
                | exact mxP_ge hx
              )
          )
      )
    | (split at hx <;> first
        | (cases hx; done)
        | (cases hx; exact ⟨Nat.le_refl _, Nat.le_refl _⟩)
        | (cases hx; exact ⟨Nat.le_succ _, Nat.le_add_right _ _⟩)
        | (cases hx; exact ⟨Nat.le_add_right _ _, Nat.le_add_right _ _⟩)
        | exact mxK_ge hx
        | exact mxV_ge hx
        | exact mxB_ge hx
        | exact mxI_ge hx
        | exact mxP_ge hx
        | (have hx := (mckO_some hx).2; first
            | (cases hx; done)
            | (cases hx; exact ⟨Nat.le_refl _, Nat.le_refl _⟩)
            | (cases hx; exact ⟨Nat.le_succ _, Nat.le_add_right _ _⟩)
            | (cases hx; exact ⟨Nat.le_add_right _ _, Nat.le_add_right _ _⟩)
            | exact mxK_ge hx
            | exact mxV_ge hx
            | exact mxB_ge hx
            | exact mxI_ge hx
            | exact mxP_ge hx
            | (have hx := (mckO_some hx).2; first
                | (cases hx; done)
                | (cases hx; exact ⟨Nat.le_refl _, Nat.le_refl _⟩)
                | (cases hx; exact ⟨Nat.le_succ _, Nat.le_add_right _ _⟩)
                | (cases hx; exact ⟨Nat.le_add_right _ _, Nat.le_add_right _ _⟩)
                | exact mxK_ge hx
                | exact mxV_ge hx
                | exact mxB_ge hx
                | exact mxI_ge hx
                | exact mxP_ge hx
              )
            | (rcases mifO_some hx with ⟨_, hx⟩ | ⟨_, hx⟩ <;> first
                | (cases hx; done)
                | (cases hx; exact ⟨Nat.le_refl _, Nat.le_refl _⟩)
                | (cases hx; exact ⟨Nat.le_succ _, Nat.le_add_right _ _⟩)
                | (cases hx; exact ⟨Nat.le_add_right _ _, Nat.le_add_right _ _⟩)
                | exact mxK_ge hx
                | exact mxV_ge hx
                | exact mxB_ge hx
                | exact mxI_ge hx
                | exact mxP_ge hx
              )
            | (split at hx <;> first
                | (cases hx; done)
                | (cases hx; exact ⟨Nat.le_refl _, Nat.le_refl _⟩)
                | (cases hx; exact ⟨Nat.le_succ _, Nat.le_add_right _ _⟩)
                | (cases hx; exact ⟨Nat.le_add_right _ _, Nat.le_add_right _ _⟩)
                | exact mxK_ge hx
                | exact mxV_ge hx
                | exact mxB_ge hx
                | exact mxI_ge hx
                | exact mxP_ge hx
              )
          )
        | (rcases mifO_some hx with ⟨_, hx⟩ | ⟨_, hx⟩ <;> first
            | (cases hx; done)
            | (cases hx; exact ⟨Nat.le_refl _, Nat.le_refl _⟩)
            | (cases hx; exact ⟨Nat.le_succ _, Nat.le_add_right _ _⟩)
            | (cases hx; exact ⟨Nat.le_add_right _ _, Nat.le_add_right _ _⟩)
            | exact mxK_ge hx
            | exact mxV_ge hx
            | exact mxB_ge hx
            | exact mxI_ge hx
            | exact mxP_ge hx
            | (have hx := (mckO_some hx).2; first
                | (cases hx; done)
                | (cases hx; exact ⟨Nat.le_refl _, Nat.le_refl _⟩)
                | (cases hx; exact ⟨Nat.le_succ _, Nat.le_add_right _ _⟩)
                | (cases hx; exact ⟨Nat.le_add_right _ _, Nat.le_add_right _ _⟩)
                | exact mxK_ge hx
                | exact mxV_ge hx
                | exact mxB_ge hx
                | exact mxI_ge hx
                | exact mxP_ge hx
              )
            | (rcases mifO_some hx with ⟨_, hx⟩ | ⟨_, hx⟩ <;> first
                | (cases hx; done)
                | (cases hx; exact ⟨Nat.le_refl _, Nat.le_refl _⟩)
                | (cases hx; exact ⟨Nat.le_succ _, Nat.le_add_right _ _⟩)
                | (cases hx; exact ⟨Nat.le_add_right _ _, Nat.le_add_right _ _⟩)
                | exact mxK_ge hx
                | exact mxV_ge hx
                | exact mxB_ge hx
                | exact mxI_ge hx
                | exact mxP_ge hx
              )
            | (split at hx <;> first
                | (cases hx; done)
                | (cases hx; exact ⟨Nat.le_refl _, Nat.le_refl _⟩)
                | (cases hx; exact ⟨Nat.le_succ _, Nat.le_add_right _ _⟩)
                | (cases hx; exact ⟨Nat.le_add_right _ _, Nat.le_add_right _ _⟩)
                | exact mxK_ge hx
                | exact mxV_ge hx
                | exact mxB_ge hx
                | exact mxI_ge hx
                | exact mxP_ge hx
              )
          )
        | (split at hx <;> first
            | (cases hx; done)
            | (cases hx; exact ⟨Nat.le_refl _, Nat.le_refl _⟩)
            | (cases hx; exact ⟨Nat.le_succ _, Nat.le_add_right _ _⟩)
            | (cases hx; exact ⟨Nat.le_add_right _ _, Nat.le_add_right _ _⟩)
            | exact mxK_ge hx
            | exact mxV_ge hx
            | exact mxB_ge hx
            | exact mxI_ge hx
            | exact mxP_ge hx
            | (have hx := (mckO_some hx).2; first
                | (cases hx; done)
                | (cases hx; exact ⟨Nat.le_refl _, Nat.le_refl _⟩)
                | (cases hx; exact ⟨Nat.le_succ _, Nat.le_add_right _ _⟩)
                | (cases hx; exact ⟨Nat.le_add_right _ _, Nat.le_add_right _ _⟩)
                | exact mxK_ge hx
                | exact mxV_ge hx
                | exact mxB_ge hx
                | exact mxI_ge hx
                | exact mxP_ge hx
              )
            | (rcases mifO_some hx with ⟨_, hx⟩ | ⟨_, hx⟩ <;> first
                | (cases hx; done)
                | (cases hx; exact ⟨Nat.le_refl _, Nat.le_refl _⟩)
                | (cases hx; exact ⟨Nat.le_succ _, Nat.le_add_right _ _⟩)
                | (cases hx; exact ⟨Nat.le_add_right _ _, Nat.le_add_right _ _⟩)
                | exact mxK_ge hx
                | exact mxV_ge hx
                | exact mxB_ge hx
                | exact mxI_ge hx
                | exact mxP_ge hx
              )
            | (split at hx <;> first
                | (cases hx; done)
                | (cases hx; exact ⟨Nat.le_refl _, Nat.le_refl _⟩)
                | (cases hx; exact ⟨Nat.le_succ _, Nat.le_add_right _ _⟩)
                | (cases hx; exact ⟨Nat.le_add_right _ _, Nat.le_add_right _ _⟩)
                | exact mxK_ge hx
                | exact mxV_ge hx
                | exact mxB_ge hx
                | exact mxI_ge hx
                | exact mxP_ge hx
              )
          )
      )
    | skip
  all_goals done
def mexF (o : Option Instr) (own m pc : Nat) (lo : mLo) (st : mSt) (h : mH) : Option mS := match o with
  | some ins => match mIsCall ins with
    | true => mxCF own m pc ins lo st h
    | false => mxF own m pc ins lo st h
  | none => none
theorem mex_iff {o : Option Instr} {own m pc : Nat} {lo : mLo} {st : mSt} {h : mH} {k : mS → Prop} : mexO o own m pc lo st h k ↔ ∃ x, mexF o own m pc lo st h = some x ∧ k x := by
  unfold mexO mexF
  cases o with
  | none => exact mF_O
  | some ins =>
    dsimp only
    cases mIsCall ins with
    | true => exact ⟨mxC_to, mxC_of⟩
    | false => exact ⟨mx_to, mx_of⟩
theorem mex_ge {o : Option Instr} {own m pc : Nat} {lo : mLo} {st : mSt} {h : mH} {x : mS} (hx : mexF o own m pc lo st h = some x) : mGe h x := by
  unfold mexF at hx
  cases o with
  | none => cases hx
  | some ins =>
    dsimp only at hx
    cases hc : mIsCall ins with
    | true => rw [hc] at hx; exact mxC_ge hx
    | false => rw [hc] at hx; exact mx_ge hx
/-- one outcome: whatever holds of it, holds; what is counted only grows -/
theorem wp_det : ∀ {n D m pc : Nat} {lo : mLo} {st : mSt} {h : mH} {P : mOut → mH → Prop}, wp n D m pc lo st h P → ∃ r h', P r h' ∧ mCt h ≤ mCt h' ∧ mSl h ≤ mSl h' ∧ ∀ P' : mOut → mH → Prop, P' r h' → wp n D m pc lo st h P' := by
  intro n
  induction n with
  | zero => intro D m pc lo st h P hw; exact hw.elim
  | succ n ih =>
    intro D m pc lo st h P hw
    obtain ⟨x, hx, hk⟩ := mex_iff.mp hw
    have hg := mex_ge hx
    rcases x with ⟨pc', lo', st', h'⟩ | ⟨r, h'⟩ | ⟨y, args, pc', lo', st', h'⟩
    · obtain ⟨r, h2, a1, a2, a3, a4⟩ := ih hk
      exact ⟨r, h2, a1, Nat.le_trans hg.1 a2, Nat.le_trans hg.2 a3, fun P' hP => mex_iff.mpr ⟨_, hx, a4 P' hP⟩⟩
    · exact ⟨r, h', hk, hg.1, hg.2, fun P' hP => mex_iff.mpr ⟨_, hx, hP⟩⟩
    · dsimp only at hk
      rw [mck_iff] at hk
      obtain ⟨hc, hk⟩ := hk
      cases D with
      | zero => exact hk.elim
      | succ D' =>
        obtain ⟨r, h2, a1, a2, a3, a4⟩ := ih hk
        cases r with
        | inl v =>
          obtain ⟨r3, h3, b1, b2, b3, b4⟩ := ih a1
          refine ⟨r3, h3, b1, Nat.le_trans hg.1 (Nat.le_trans a2 b2), Nat.le_trans hg.2 (Nat.le_trans a3 b3), fun P' hP => mex_iff.mpr ⟨_, hx, ?_⟩⟩
          dsimp only
          rw [mck_iff]
          exact ⟨hc, a4 _ (b4 P' hP)⟩
        | inr E =>
          dsimp only at a1
          cases hh : mHnd m pc E with
          | none =>
            rw [hh] at a1
            refine ⟨.inr E, h2, a1, Nat.le_trans hg.1 a2, Nat.le_trans hg.2 a3, fun P' hP => mex_iff.mpr ⟨_, hx, ?_⟩⟩
            dsimp only
            rw [mck_iff]
            refine ⟨hc, a4 _ ?_⟩
            dsimp only
            rw [hh]
            exact hP
          | some q =>
            obtain ⟨pc2, i⟩ := q
            rw [hh] at a1
            dsimp only at a1
            rw [mck_iff] at a1
            obtain ⟨r3, h3, b1, b2, b3, b4⟩ := ih a1.2
            refine ⟨r3, h3, b1, Nat.le_trans hg.1 (Nat.le_trans a2 b2), Nat.le_trans hg.2 (Nat.le_trans a3 b3), fun P' hP => mex_iff.mpr ⟨_, hx, ?_⟩⟩
            dsimp only
            rw [mck_iff]
            refine ⟨hc, a4 _ ?_⟩
            dsimp only
            rw [hh]
            dsimp only
            rw [mck_iff]
            exact ⟨a1.1, b4 P' hP⟩
