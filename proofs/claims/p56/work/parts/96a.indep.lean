/-! WHERE THE SYSTEM IS GOING TO LIE: the functions that make a World. -/
set_option maxRecDepth 100000 in
theorem kwN_H171 {L : Nat} {x1 : Int32} {x2 : Int32} : kwInd (H171 L x1 x2) := fun A m r => (kwAx_if (kwAx_ck kwAx_rt) (kwAx_ck (kwAx_ck kwAx_rt)))
set_option maxRecDepth 100000 in
theorem kwN_H173_2 {B : Nat} : ∀ (f : Nat) (y0 : Nat), (y0 = 2 ∨ y0 = 10) → ∀ (y1 : Int32) (y2 : Int32), kwInd (H173_2 B f y0 y1 y2) := by
  intro f
  induction f with
  | zero => intro _ _ _ _ A m r; exact kwAx_no
  | succ f h =>
    intro y g y1 y2 A m r
    rcases g with g | g
    · subst g
      exact (kwAx_ck (kwAx_if kwAx_rt (h _ (by decide) _ _ _ _ _)))
    · subst g
      exact (kwAx_ck (kwAx_if (h _ (by decide) _ _ _ _ _) (kwAx_ck (kwAx_ck (kwAx_ck (kwAx_ck (h _ (by decide) _ _ _ _ _)))))))
set_option maxRecDepth 100000 in
theorem kwN_H173 {B : Nat} : kwInd (H173 B) := fun A m r => (kwAx_ck (kwN_H173_2 _ _ (by decide) _ _ _ _ _))
set_option maxRecDepth 100000 in
theorem kwN_H175 {B : Nat} {x1 : Int32} {x2 : Int32} : kwInd (H175 B x1 x2) := fun A m r => (kwAx_ck (kwAx_if (kwAx_ck kwAx_rt) (kwAx_if (kwAx_ck kwAx_rt) (kwAx_ck (kwAx_if (kwAx_ck kwAx_rt) (kwAx_ck (kwAx_if (kwAx_ck kwAx_rt) (kwAx_ck kwAx_rt))))))))
set_option maxRecDepth 100000 in
theorem kwN_H176_4 {B : Nat} : ∀ (f : Nat) (y0 : Int32) (y1 : Int32), kwInd (H176_4 B f y0 y1) := by
  intro f
  induction f with
  | zero => intro _ _ A m r; exact kwAx_no
  | succ f h =>
    intro y0 y1 A m r
    exact (kwAx_ck (kwAx_if kwAx_rt (kwAx_ck (kwAx_if (h _ _ _ _ _) (h _ _ _ _ _)))))
set_option maxRecDepth 100000 in
theorem kwN_H176 {B : Nat} : kwInd (H176 B) := fun A m r => (kwAx_ck (kwN_H176_4 _ _ _ _ _ _))
set_option maxRecDepth 100000 in
theorem kwN_H178 {B : Nat} {x1 : Int32} {x2 : Int32} : kwInd (H178 B x1 x2) := fun A m r => (kwAx_ck (kwAx_I (kwN_H175 _ _ _) fun _ _ _ => (kwAx_ck (kwAx_if (kwAx_ck kwAx_rt) (kwAx_ck (kwAx_ck (kwAx_if (kwAx_ck kwAx_rt) (kwAx_ck kwAx_rt))))))))
set_option maxRecDepth 100000 in
theorem kwN_H179 {B : Nat} {x1 : Int32} {x2 : Int32} : kwInd (H179 B x1 x2) := fun A m r => (kwAx_ck (kwAx_I (kwN_H175 _ _ _) fun _ _ _ => (kwAx_ck (kwAx_if (kwAx_ck kwAx_rt) (kwAx_ck (kwAx_ck (kwAx_if (kwAx_ck kwAx_rt) (kwAx_ck kwAx_rt))))))))
set_option maxRecDepth 100000 in
theorem kwN_H177 {B : Nat} {x1 : Int32} {x2 : Int32} : kwInd (H177 B x1 x2) := fun A m r => (kwAx_ck (kwAx_I (kwN_H178 _ _ _) fun _ _ _ => (kwAx_ck (kwAx_if (kwAx_ck kwAx_rt) (kwAx_if (kwAx_ck kwAx_rt) (kwAx_I (kwN_H179 _ _ _) fun _ _ _ => (kwAx_ck (kwAx_if (kwAx_ck kwAx_rt) (kwAx_ck kwAx_rt)))))))))
set_option maxRecDepth 100000 in
theorem kwN_H180_4 {B : Nat} : ∀ (f : Nat) (y0 : Int32) (y1 : Int32) (y2 : Int32), kwInd (H180_4 B f y0 y1 y2) := by
  intro f
  induction f with
  | zero => intro _ _ _ A m r; exact kwAx_no
  | succ f h =>
    intro y0 y1 y2 A m r
    exact (kwAx_ck (kwAx_if kwAx_rt (kwAx_ck (kwAx_if (h _ _ _ _ _ _) (kwAx_if (h _ _ _ _ _ _) kwAx_rt)))))
set_option maxRecDepth 100000 in
theorem kwN_H180 {B : Nat} {x1 : Int32} : kwInd (H180 B x1) := fun A m r => (kwAx_ck (kwN_H180_4 _ _ _ _ _ _ _))
set_option maxRecDepth 100000 in
theorem kwN_H182 {B : Nat} {x1 : Int32} {x2 : Int32} {x3 : Int32} {x4 : Int32} : kwInd (H182 B x1 x2 x3 x4) := fun A m r => (kwAx_ck (kwAx_ck (kwAx_ck (kwAx_ck kwAx_rt))))
set_option maxRecDepth 100000 in
theorem kwN_H181 {B : Nat} {x1 : Int32} {x2 : Int32} {x3 : Int32} {x4 : Int32} {x5 : Int32} : kwInd (H181 B x1 x2 x3 x4 x5) := fun A m r => (kwAx_ck (kwAx_ck (kwAx_ck (kwAx_ck (kwAx_ck (kwAx_ck (kwAx_ck (kwAx_ck (kwAx_ck (kwAx_V (kwN_H182 _ _ _) fun _ _ => (kwAx_ck (kwAx_V (kwN_H182 _ _ _) fun _ _ => (kwAx_ck kwAx_rt)))))))))))))
set_option maxRecDepth 100000 in
theorem kwN_H183 {B : Nat} {x1 : Int32} {x2 : Int32} : kwInd (H183 B x1 x2) := fun A m r => (kwAx_ck (kwAx_if (kwAx_ck kwAx_rt) (kwAx_I (kwN_H179 _ _ _) fun _ _ _ => (kwAx_ck (kwAx_if (kwAx_ck kwAx_rt) (kwAx_I (kwN_H178 _ _ _) fun _ _ _ => (kwAx_ck (kwAx_if (kwAx_ck kwAx_rt) (kwAx_I (kwN_H178 _ _ _) fun _ _ _ => (kwAx_ck (kwAx_if (kwAx_ck kwAx_rt) (kwAx_ck kwAx_rt))))))))))))
set_option maxRecDepth 100000 in
theorem kwN_H184 {B : Nat} {x1 : Int32} {x2 : Int32} {x3 : Int32} : kwInd (H184 B x1 x2 x3) := fun A m r => (kwAx_ck (kwAx_ck (kwAx_ck (kwAx_V (kwN_H182 _ _ _) fun _ _ => (kwAx_ck kwAx_rt)))))
set_option maxRecDepth 100000 in
theorem kwN_H188 {B : Nat} {x1 : Int32} {x2 : Int32} : kwInd (H188 B x1 x2) := fun A m r => (kwAx_ck (kwAx_ck (kwAx_ck (kwAx_ck (kwAx_ck (kwAx_ck (kwAx_ck (kwAx_ck (kwAx_ck kwAx_rt)))))))))
set_option maxRecDepth 100000 in
theorem kwN_HR189 : ∀ (f : Nat) (y0 : Nat), (y0 = 189 ∨ y0 = 190) → ∀ (y1 : Nat) (y2 : Int32) (y3 : Int32), kwInd (HR189 f y0 y1 y2 y3) := by
  intro f
  induction f with
  | zero => intro _ _ _ _ _ A m r; exact kwAx_no
  | succ f h =>
    intro y g y1 y2 y3 A m r
    rcases g with g | g
    · subst g
      exact (kwAx_ck (kwAx_I (kwN_H179 _ _ _) fun _ _ _ => (kwAx_ck (kwAx_if (kwAx_I (kwN_H179 _ _ _) fun _ _ _ => (kwAx_ck (kwAx_if kwAx_rt (kwAx_I (h _ (by decide) _ _ _ _ _ _) fun _ _ _ => (kwAx_ck kwAx_rt))))) (kwAx_I (h _ (by decide) _ _ _ _ _ _) fun _ _ _ => (kwAx_ck (kwAx_I (kwN_H179 _ _ _) fun _ _ _ => (kwAx_ck (kwAx_if kwAx_rt (kwAx_I (h _ (by decide) _ _ _ _ _ _) fun _ _ _ => (kwAx_ck kwAx_rt)))))))))))
    · subst g
      exact (kwAx_ck (kwAx_ck (kwAx_ck (kwAx_ck (kwAx_I (kwN_H178 _ _ _) fun _ _ _ => (kwAx_ck (kwAx_if kwAx_rt (kwAx_ck (kwAx_ck (kwAx_ck (kwAx_ck (kwAx_ck (kwAx_ck (kwAx_I (h _ (by decide) _ _ _ _ _ _) fun _ _ _ => (kwAx_ck kwAx_rt)))))))))))))))
set_option maxRecDepth 100000 in
theorem kwN_H189 {B : Nat} {x1 : Int32} {x2 : Int32} : kwInd (H189 B x1 x2) := fun A m r => (kwN_HR189 _ _ (by decide) _ _ _ _ _ _)
set_option maxRecDepth 100000 in
theorem kwN_H187 {B : Nat} {x1 : Int32} {x2 : Int32} : kwInd (H187 B x1 x2) := fun A m r => (kwAx_ck (kwAx_I (kwN_H188 _ _ _) fun _ _ _ => (kwAx_ck (kwAx_I (kwN_H189 _ _ _) fun _ _ _ => (kwAx_ck kwAx_rt)))))
set_option maxRecDepth 100000 in
theorem kwN_H192 {B : Nat} {x1 : Int32} {x2 : Int32} {x3 : Int32} {x4 : Int32} : kwInd (H192 B x1 x2 x3 x4) := fun A m r => (kwAx_ck (kwAx_ck (kwAx_ck (kwAx_ck (kwAx_ck (kwAx_ck (kwAx_ck (kwAx_ck (kwAx_ck kwAx_rt)))))))))
set_option maxRecDepth 100000 in
theorem kwN_H193 {B : Nat} {x1 : Int32} {x2 : Int32} {x3 : Int32} : kwInd (H193 B x1 x2 x3) := fun A m r => (kwAx_ck (kwAx_if (kwAx_V (kwN_H182 _ _ _) fun _ _ => (kwAx_ck (kwAx_ck (kwAx_ck (kwAx_if kwAx_rt (kwAx_ck (kwAx_if (kwAx_ck (kwAx_ck (kwAx_ck (kwAx_ck (kwAx_ck (kwAx_ck kwAx_rt)))))) kwAx_rt))))))) (kwAx_V (kwN_H182 _ _ _) fun _ _ => (kwAx_ck kwAx_rt))))
set_option maxRecDepth 100000 in
theorem kwN_HR191 : ∀ (f : Nat) (y0 : Nat), (y0 = 191 ∨ y0 = 194) → ∀ (y1 : Nat) (y2 : Int32) (y3 : Int32) (y4 : Int32) (y5 : Int32), kwInd (HR191 f y0 y1 y2 y3 y4 y5) := by
  intro f
  induction f with
  | zero => intro _ _ _ _ _ _ _ A m r; exact kwAx_no
  | succ f h =>
    intro y g y1 y2 y3 y4 y5 A m r
    rcases g with g | g
    · subst g
      exact (kwAx_ck (kwAx_I (kwN_H178 _ _ _) fun _ _ _ => (kwAx_ck (kwAx_if (kwAx_V (kwN_H192 _ _ _) fun _ _ => (kwAx_ck (kwAx_ck (kwAx_ck (kwAx_ck (kwAx_ck (kwAx_ck (kwAx_ck (kwAx_V (kwN_H193 _ _ _) fun _ _ => (kwAx_ck (kwAx_V (kwN_H193 _ _ _) fun _ _ => (kwAx_ck (kwAx_V (h _ (by decide) _ _ _ _ _ _ _ _) fun _ _ => (kwAx_ck (kwAx_V (h _ (by decide) _ _ _ _ _ _ _ _) fun _ _ => (kwAx_ck kwAx_rt)))))))))))))))) kwAx_rt))))
    · subst g
      exact (kwAx_ck (kwAx_I (kwN_H179 _ _ _) fun _ _ _ => (kwAx_ck (kwAx_if (kwAx_V (kwN_H192 _ _ _) fun _ _ => (kwAx_ck (kwAx_ck (kwAx_ck (kwAx_ck (kwAx_ck (kwAx_V (kwN_H193 _ _ _) fun _ _ => (kwAx_ck (kwAx_V (h _ (by decide) _ _ _ _ _ _ _ _) fun _ _ => (kwAx_ck kwAx_rt)))))))))) kwAx_rt))))
set_option maxRecDepth 100000 in
theorem kwN_H191 {B : Nat} {x1 : Int32} {x2 : Int32} {x3 : Int32} {x4 : Int32} : kwInd (H191 B x1 x2 x3 x4) := fun A m r => (kwN_HR191 _ _ (by decide) _ _ _ _ _ _ _ _)
set_option maxRecDepth 100000 in
theorem kwN_H186_2 {B : Nat} : ∀ (f : Nat) (y0 : Nat), (y0 = 2 ∨ y0 = 14) → ∀ (y1 : Int32) (y2 : Int32) (y3 : Int32), kwInd (H186_2 B f y0 y1 y2 y3) := by
  intro f
  induction f with
  | zero => intro _ _ _ _ _ A m r; exact kwAx_no
  | succ f h =>
    intro y g y1 y2 y3 A m r
    rcases g with g | g
    · subst g
      exact (kwAx_ck (kwAx_ck (kwAx_if kwAx_rt (h _ (by decide) _ _ _ _ _ _))))
    · subst g
      exact (kwAx_ck (kwAx_ck (kwAx_if (h _ (by decide) _ _ _ _ _ _) (kwAx_I (kwN_H178 _ _ _) fun _ _ _ => (kwAx_ck (kwAx_if (h _ (by decide) _ _ _ _ _ _) (kwAx_if (kwAx_I (kwN_H187 _ _ _) fun _ _ _ => (kwAx_ck (kwAx_if (kwAx_if (kwAx_V (kwN_H191 _ _ _) fun _ _ => (kwAx_ck kwAx_rt)) (kwAx_V (kwN_H191 _ _ _) fun _ _ => (kwAx_ck kwAx_rt))) (h _ (by decide) _ _ _ _ _ _)))) (kwAx_ck (kwAx_ck (kwAx_ck (kwAx_if (kwAx_if (kwAx_V (kwN_H191 _ _ _) fun _ _ => (kwAx_ck kwAx_rt)) (kwAx_V (kwN_H191 _ _ _) fun _ _ => (kwAx_ck kwAx_rt))) (h _ (by decide) _ _ _ _ _ _))))))))))))
set_option maxRecDepth 100000 in
theorem kwN_H186 {B : Nat} {x1 : Int32} : kwInd (H186 B x1) := fun A m r => (kwAx_ck (kwN_H186_2 _ _ (by decide) _ _ _ _ _ _))
set_option maxRecDepth 100000 in
theorem kwN_H185_0 {B : Nat} : ∀ (f : Nat), kwInd (H185_0 B f) := by
  intro f
  induction f with
  | zero => intro  A m r; exact kwAx_no
  | succ f h =>
    intro  A m r
    exact (kwAx_ck (kwAx_I (kwN_H186 _ _ _) fun _ _ _ => (kwAx_ck (kwAx_if kwAx_rt (h _ _ _)))))
set_option maxRecDepth 100000 in
theorem kwN_H185 {B : Nat} : kwInd (H185 B) := fun A m r => (kwAx_ck (kwN_H185_0 _ _ _ _))
set_option maxRecDepth 100000 in
theorem kwN_H214 {a0 : Nat} : kwInd (H214 a0) := fun A m r => (kwAx_ck (kwAx_if (kwAx_ck kwAx_rt) (kwAx_ck kwAx_rt)))
set_option maxRecDepth 100000 in
theorem kwN_H234 {x0 : Int32} {x1 : Int32} {x2 : Int32} : kwInd (H234 x0 x1 x2) := fun A m r => (kwAx_if kwAx_no (kwAx_if kwAx_no kwAx_rt))
set_option maxRecDepth 100000 in
theorem kwN_H213 {a0 : Nat} {x1 : Int32} : kwInd (H213 a0 x1) := fun A m r => (kwAx_ck (kwAx_gw fun _ => (kwAx_ln fun _ => (kwAx_ck (kwAx_ck (kwAx_I (kwN_H234 _ _ _) fun _ _ _ => (kwAx_if (kwAx_ck kwAx_rt) kwAx_no)))))))
set_option maxRecDepth 100000 in
theorem kwN_H231 {a0 : Nat} {x1 : Int32} : kwInd (H231 a0 x1) := fun A m r => (kwAx_ln fun _ => (kwAx_if (kwAx_N fun _ _ _ => (kwAx_ln fun _ => (kwAx_ck kwAx_rt))) (kwAx_C fun _ _ _ => (kwAx_ck kwAx_rt))))
set_option maxRecDepth 100000 in
theorem kwN_H212 {a0 : Nat} {x1 : Int32} : kwInd (H212 a0 x1) := fun A m r => (kwAx_ck (kwAx_gw fun _ => (kwAx_ln fun _ => (kwAx_ck (kwAx_if kwAx_rt (kwAx_ck (kwAx_gw fun _ => (kwAx_ck (kwAx_I (kwN_H213 _ _ _) fun _ _ _ => (kwAx_ck (kwAx_R (kwN_H231 _ _ _) fun _ _ _ => (kwAx_P fun _ _ => kwAx_rt))))))))))))
set_option maxRecDepth 100000 in
theorem kwN_H230 {x0 : Int32} : kwInd (H230 x0) := fun A m r => (kwAx_if (kwAx_ck kwAx_rt) (kwAx_ck kwAx_rt))
set_option maxRecDepth 100000 in
theorem kwN_H210 {a0 : Nat} {x1 : Int32} : kwInd (H210 a0 x1) := fun A m r => (kwAx_ck (kwAx_ck (kwAx_V (kwN_H212 _ _ _) fun _ _ => (kwAx_ck (kwAx_I (kwN_H214 _ _ _) fun _ _ _ => (kwAx_if (kwAx_ck (kwAx_I (kwN_H214 _ _ _) fun _ _ _ => (kwAx_if (kwAx_ck (kwAx_gw fun _ => kwAx_no)) kwAx_no))) (kwAx_I (kwN_H230 _ _ _) fun _ _ _ => (kwAx_if (kwAx_ck (kwAx_I (kwN_H214 _ _ _) fun _ _ _ => (kwAx_if (kwAx_ck (kwAx_gw fun _ => kwAx_no)) kwAx_no))) (kwAx_ck (kwAx_gw fun _ => (kwAx_ck (kwAx_ck (kwAx_if kwAx_no (kwAx_ck kwAx_rt))))))))))))))
set_option maxRecDepth 100000 in
theorem kwN_H220_16 : ∀ (f : Nat) (y0 : Int32) (y1 : Int32) (y2 : Int32) (y3 : Int32), kwInd (H220_16 f y0 y1 y2 y3) := by
  intro f
  induction f with
  | zero => intro _ _ _ _ A m r; exact kwAx_no
  | succ f h =>
    intro y0 y1 y2 y3 A m r
    exact (kwAx_if kwAx_rt (kwAx_if (h _ _ _ _ _ _ _) kwAx_rt))
set_option maxRecDepth 100000 in
theorem kwN_H220 {x0 : Int32} : kwInd (H220 x0) := fun A m r => (kwAx_if (kwN_H220_16 _ _ _ _ _ _ _ _) (kwN_H220_16 _ _ _ _ _ _ _ _))
set_option maxRecDepth 100000 in
theorem kwN_H219_22 {a2 : Nat} : ∀ (f : Nat) (y0 : Int32) (y1 : Int32) (y2 : Int32) (y3 : Int32), kwInd (H219_22 a2 f y0 y1 y2 y3) := by
  intro f
  induction f with
  | zero => intro _ _ _ _ A m r; exact kwAx_no
  | succ f h =>
    intro y0 y1 y2 y3 A m r
    exact (kwAx_if (kwAx_ck (kwAx_if kwAx_no (kwAx_ck (kwAx_if (kwAx_if kwAx_rt (kwAx_if kwAx_no (kwAx_ck kwAx_rt))) (kwAx_ck (kwAx_if kwAx_no (kwAx_ck (kwAx_if kwAx_rt (kwAx_if kwAx_no (kwAx_ck kwAx_rt)))))))))) (kwAx_ck (kwAx_if kwAx_no (kwAx_ck (kwAx_ck (kwAx_if kwAx_no (kwAx_ck (h _ _ _ _ _ _ _))))))))
set_option maxRecDepth 100000 in
theorem kwN_H219 {a2 : Nat} {x0 : Int32} {x1 : Int32} : kwInd (H219 a2 x0 x1) := fun A m r => (kwAx_if (kwAx_if (kwN_H219_22 _ _ _ _ _ _ _ _) (kwN_H219_22 _ _ _ _ _ _ _ _)) (kwAx_if (kwN_H219_22 _ _ _ _ _ _ _ _) (kwN_H219_22 _ _ _ _ _ _ _ _)))
set_option maxRecDepth 100000 in
theorem kwN_H211 {a0 : Nat} {x1 : Int32} : kwInd (H211 a0 x1) := fun A m r => (kwAx_ck (kwAx_I (kwN_H220 _ _ _) fun _ _ _ => (kwAx_ck (kwAx_V (kwN_H212 _ _ _) fun _ _ => (kwAx_ck (kwAx_I (kwN_H214 _ _ _) fun _ _ _ => (kwAx_if (kwAx_ck (kwAx_gw fun _ => kwAx_no)) (kwAx_ck (kwAx_gw fun _ => (kwAx_I (kwN_H219 _ _ _) fun _ _ _ => (kwAx_ck kwAx_rt)))))))))))
set_option maxRecDepth 100000 in
theorem kwN_H202 {a0 : Nat} {x1 : Int32} : kwInd (H202 a0 x1) := fun A m r => (kwAx_ck (kwAx_R (kwN_H210 _ _ _) fun _ _ _ => kwAx_rt))
set_option maxRecDepth 100000 in
theorem kwN_H203 {a0 : Nat} {x1 : Int32} : kwInd (H203 a0 x1) := fun A m r => (kwAx_ck (kwAx_R (kwN_H211 _ _ _) fun _ _ _ => kwAx_rt))
set_option maxRecDepth 100000 in
theorem kwN_H215 {a0 : Nat} {k1 : Nat} : kwInd (H215 a0 k1) := fun A m r => (kwAx_ck (kwAx_ck (kwAx_if kwAx_rt kwAx_no)))
set_option maxRecDepth 100000 in
theorem kwN_H216 {a0 : Nat} {k2 : Nat} {x1 : Int32} : kwInd (H216 a0 k2 x1) := fun A m r => (kwAx_ck (kwAx_V (kwN_H215 _ _ _) fun _ _ => (kwAx_ck (kwAx_gw fun _ => (kwAx_ck (kwAx_ck kwAx_rt))))))
set_option maxRecDepth 100000 in
theorem kwN_H209 {a0 : Nat} {k1 : Nat} : kwInd (H209 a0 k1) := fun A m r => (kwAx_ck (kwAx_ck (kwAx_ck (kwAx_V (kwN_H212 _ _ _) fun _ _ => (kwAx_ck (kwAx_ck (kwAx_V (kwN_H216 _ _ _) fun _ _ => (kwAx_ck (kwAx_ck kwAx_rt)))))))))
set_option maxRecDepth 100000 in
theorem kwN_H201 {a0 : Nat} {k1 : Nat} : kwInd (H201 a0 k1) := fun A m r => (kwAx_ck (kwAx_R (kwN_H209 _ _ _) fun _ _ _ => kwAx_rt))
set_option maxRecDepth 100000 in
theorem kwN_H205 {a0 : Nat} {k1 : Nat} : kwInd (H205 a0 k1) := fun A m r => (kwAx_ck (kwAx_R (kwN_H201 _ _ _) fun _ _ _ => kwAx_rt))
set_option maxRecDepth 100000 in
theorem kwN_H208 {a0 : Nat} {k1 : Nat} : kwInd (H208 a0 k1) := fun A m r => (kwAx_ck (kwAx_if (kwAx_ck (kwAx_ck (kwAx_N fun _ _ _ => (kwAx_P fun _ _ => (kwAx_ck (kwAx_R (kwN_H205 _ _ _) fun _ _ _ => kwAx_rt)))))) (kwAx_ck (kwAx_ck (kwAx_N fun _ _ _ => (kwAx_P fun _ _ => (kwAx_ck (kwAx_R (kwN_H205 _ _ _) fun _ _ _ => kwAx_rt))))))))
set_option maxRecDepth 100000 in
theorem kwN_H200 {a0 : Nat} {k1 : Nat} : kwInd (H200 a0 k1) := fun A m r => (kwAx_V (kwN_H208 _ _ _) fun _ _ => kwAx_rt)
set_option maxRecDepth 100000 in
theorem kwN_H174_151 {L : Nat} {B : Nat} {x2 : Int32} {x3 : Int32} {x4 : Int32} {x5 : Int32} {x6 : Int32} {x7 : Int32} {x8 : Int32} {x9 : Int32} : kwInd (H174_151 L B x2 x3 x4 x5 x6 x7 x8 x9) := fun A m r => (kwAx_ck (kwAx_I (kwN_H171 _ _ _) fun _ _ _ => (kwAx_ck (kwAx_ck (kwAx_R (kwN_H201 _ _ _) fun _ _ _ => (kwAx_ck (kwAx_ck (kwAx_R (kwN_H203 _ _ _) fun _ _ _ => (kwAx_ck (kwAx_ck (kwAx_R (kwN_H202 _ _ _) fun _ _ _ => (kwAx_ck (kwAx_ck (kwAx_R (kwN_H203 _ _ _) fun _ _ _ => (kwAx_ck (kwAx_ck (kwAx_R (kwN_H202 _ _ _) fun _ _ _ => (kwAx_ck (kwAx_ck (kwAx_ck (kwAx_R (kwN_H202 _ _ _) fun _ _ _ => (kwAx_ck (kwAx_ck (kwAx_R (kwN_H202 _ _ _) fun _ _ _ => (kwAx_ck (kwAx_ck (kwAx_ck (kwAx_R (kwN_H202 _ _ _) fun _ _ _ => (kwAx_ck (kwAx_ck (kwAx_R (kwN_H202 _ _ _) fun _ _ _ => (kwAx_ck (kwAx_ck (kwAx_R (kwN_H203 _ _ _) fun _ _ _ => (kwAx_ck (kwAx_V (kwN_H181 _ _ _) fun _ _ => (kwAx_ck kwAx_rt)))))))))))))))))))))))))))))))))))))
set_option maxRecDepth 100000 in
theorem kwN_H174_106 {L : Nat} {B : Nat} : ∀ (f : Nat) (y0 : Int32) (y1 : Int32) (y2 : Int32) (y3 : Int32) (y4 : Int32) (y5 : Int32) (y6 : Int32) (y7 : Int32), kwInd (H174_106 L B f y0 y1 y2 y3 y4 y5 y6 y7) := by
  intro f
  induction f with
  | zero => intro _ _ _ _ _ _ _ _ A m r; exact kwAx_no
  | succ f h =>
    intro y0 y1 y2 y3 y4 y5 y6 y7 A m r
    exact (kwAx_ck (kwAx_if (kwN_H174_151 _ _ _) (kwAx_if (kwN_H174_151 _ _ _) (kwAx_ck (kwAx_if (h _ _ _ _ _ _ _ _ _ _ _) (kwAx_if (h _ _ _ _ _ _ _ _ _ _ _) (h _ _ _ _ _ _ _ _ _ _ _)))))))
set_option maxRecDepth 100000 in
theorem kwN_H174_18 {L : Nat} {B : Nat} : ∀ (f : Nat) (y0 : Nat), (y0 = 18 ∨ y0 = 239) → ∀ (y1 : Int32) (y2 : Int32) (y3 : Int32) (y4 : Int32) (y5 : Int32), kwInd (H174_18 L B f y0 y1 y2 y3 y4 y5) := by
  intro f
  induction f with
  | zero => intro _ _ _ _ _ _ _ A m r; exact kwAx_no
  | succ f h =>
    intro y g y1 y2 y3 y4 y5 A m r
    rcases g with g | g
    · subst g
      exact (kwAx_ck (kwAx_if kwAx_rt (kwAx_I (kwN_H175 _ _ _) fun _ _ _ => (kwAx_ck (kwAx_if (h _ (by decide) _ _ _ _ _ _ _ _) (kwAx_I (kwN_H176 _ _ _) fun _ _ _ => (kwAx_ck (kwAx_if (kwAx_if (h _ (by decide) _ _ _ _ _ _ _ _) (kwAx_I (kwN_H177 _ _ _) fun _ _ _ => (kwAx_ck (kwAx_if (h _ (by decide) _ _ _ _ _ _ _ _) (kwAx_I (kwN_H176 _ _ _) fun _ _ _ => (kwAx_ck (kwAx_I (kwN_H171 _ _ _) fun _ _ _ => (kwAx_ck (kwAx_I (kwN_H180 _ _ _) fun _ _ _ => (kwAx_ck (kwN_H174_106 _ _ _ _ _ _ _ _ _ _ _ _))))))))))) (h _ (by decide) _ _ _ _ _ _ _ _)))))))))
    · subst g
      exact (kwAx_ck (kwAx_if (h _ (by decide) _ _ _ _ _ _ _ _) (kwAx_I (kwN_H183 _ _ _) fun _ _ _ => (kwAx_ck (kwAx_if (h _ (by decide) _ _ _ _ _ _ _ _) (kwAx_I (kwN_H180 _ _ _) fun _ _ _ => (kwAx_ck (kwAx_ck (kwAx_R (kwN_H201 _ _ _) fun _ _ _ => (kwAx_ck (kwAx_ck (kwAx_R (kwN_H203 _ _ _) fun _ _ _ => (kwAx_ck (kwAx_ck (kwAx_R (kwN_H202 _ _ _) fun _ _ _ => (kwAx_ck (kwAx_ck (kwAx_R (kwN_H203 _ _ _) fun _ _ _ => (kwAx_ck (kwAx_ck (kwAx_R (kwN_H202 _ _ _) fun _ _ _ => (kwAx_ck (kwAx_ck (kwAx_ck (kwAx_R (kwN_H202 _ _ _) fun _ _ _ => (kwAx_ck (kwAx_V (kwN_H184 _ _ _) fun _ _ => (kwAx_ck kwAx_rt))))))))))))))))))))))))))))
set_option maxRecDepth 100000 in
theorem kwN_H174 {L : Nat} {B : Nat} : kwInd (H174 L B) := fun A m r => (kwAx_ck (kwAx_I (kwN_H171 _ _ _) fun _ _ _ => (kwAx_ck (kwAx_I (kwN_H171 _ _ _) fun _ _ _ => (kwAx_ck (kwN_H174_18 _ _ (by decide) _ _ _ _ _ _ _ _))))))
set_option maxRecDepth 100000 in
theorem kwN_H172_493 {L : Nat} {B : Nat} : ∀ (f : Nat) (y0 : Int32), kwInd (H172_493 L B f y0) := by
  intro f
  induction f with
  | zero => intro _ A m r; exact kwAx_no
  | succ f h =>
    intro y0 A m r
    exact (kwAx_ck (kwAx_if (kwAx_V (kwN_H185 _ _ _) fun _ _ => (kwAx_ck kwAx_rt)) (kwAx_V (kwN_H174 _ _ _) fun _ _ => (kwAx_ck (h _ _ _ _)))))
set_option maxRecDepth 100000 in
theorem kwN_H172_365 {L : Nat} {B : Nat} : ∀ (f : Nat) (y0 : Int32), kwInd (H172_365 L B f y0) := by
  intro f
  induction f with
  | zero => intro _ A m r; exact kwAx_no
  | succ f h =>
    intro y0 A m r
    exact (kwAx_ck (kwAx_if (kwAx_I (kwN_H171 _ _ _) fun _ _ _ => (kwAx_ck (kwN_H172_493 _ _ _ _ _))) (kwAx_I (kwN_H171 _ _ _) fun _ _ _ => (kwAx_ck (kwAx_ck (kwAx_I (kwN_H171 _ _ _) fun _ _ _ => (kwAx_ck (kwAx_if (kwAx_I (kwN_H171 _ _ _) fun _ _ _ => (kwAx_ck (kwAx_ck (kwAx_ck (kwAx_R (kwN_H201 _ _ _) fun _ _ _ => (kwAx_ck (kwAx_ck (kwAx_ck (kwAx_R (kwN_H202 _ _ _) fun _ _ _ => (kwAx_ck (kwAx_ck (kwAx_R (kwN_H202 _ _ _) fun _ _ _ => (kwAx_ck (kwAx_ck (kwAx_ck (kwAx_R (kwN_H203 _ _ _) fun _ _ _ => (kwAx_ck (kwAx_ck (kwAx_R (kwN_H202 _ _ _) fun _ _ _ => (kwAx_ck (kwAx_ck (kwAx_ck (kwAx_R (kwN_H203 _ _ _) fun _ _ _ => (kwAx_ck (h _ _ _ _))))))))))))))))))))))))) (kwAx_I (kwN_H171 _ _ _) fun _ _ _ => (kwAx_ck (kwAx_ck (kwAx_ck (kwAx_R (kwN_H201 _ _ _) fun _ _ _ => (kwAx_ck (kwAx_ck (kwAx_ck (kwAx_R (kwN_H202 _ _ _) fun _ _ _ => (kwAx_ck (kwAx_ck (kwAx_R (kwN_H202 _ _ _) fun _ _ _ => (kwAx_ck (kwAx_ck (kwAx_ck (kwAx_R (kwN_H203 _ _ _) fun _ _ _ => (kwAx_ck (kwAx_ck (kwAx_R (kwN_H202 _ _ _) fun _ _ _ => (kwAx_ck (kwAx_ck (kwAx_ck (kwAx_R (kwN_H203 _ _ _) fun _ _ _ => (kwAx_ck (h _ _ _ _)))))))))))))))))))))))))))))))))
set_option maxRecDepth 100000 in
theorem kwN_H172_317 {L : Nat} {B : Nat} : ∀ (f : Nat) (y0 : Int32), kwInd (H172_317 L B f y0) := by
  intro f
  induction f with
  | zero => intro _ A m r; exact kwAx_no
  | succ f h =>
    intro y0 A m r
    exact (kwAx_ck (kwAx_if (kwAx_I (kwN_H171 _ _ _) fun _ _ _ => (kwAx_ck (kwN_H172_365 _ _ _ _ _))) (kwAx_if (kwAx_ck (kwAx_R (kwN_H201 _ _ _) fun _ _ _ => (kwAx_ck (kwAx_ck (kwAx_ck (kwAx_R (kwN_H203 _ _ _) fun _ _ _ => (kwAx_ck (h _ _ _ _)))))))) (kwAx_ck (kwAx_R (kwN_H201 _ _ _) fun _ _ _ => (kwAx_ck (kwAx_ck (kwAx_ck (kwAx_R (kwN_H203 _ _ _) fun _ _ _ => (kwAx_ck (h _ _ _ _)))))))))))
set_option maxRecDepth 100000 in
theorem kwN_H172 {L : Nat} {B : Nat} : kwInd (H172 L B) := fun A m r => (kwAx_ck (kwAx_V (kwN_H173 _ _ _) fun _ _ => (kwAx_ck (kwAx_I (kwN_H171 _ _ _) fun _ _ _ => (kwAx_ck (kwAx_if (kwAx_I (kwN_H171 _ _ _) fun _ _ _ => (kwAx_ck (kwAx_ck (kwAx_I (kwN_H171 _ _ _) fun _ _ _ => (kwAx_ck (kwAx_if (kwAx_I (kwN_H171 _ _ _) fun _ _ _ => (kwAx_ck (kwAx_ck (kwAx_I (kwN_H171 _ _ _) fun _ _ _ => (kwAx_ck (kwAx_if (kwAx_I (kwN_H171 _ _ _) fun _ _ _ => (kwAx_ck (kwAx_ck (kwAx_I (kwN_H171 _ _ _) fun _ _ _ => (kwAx_ck (kwAx_ck (kwAx_I (kwN_H171 _ _ _) fun _ _ _ => (kwAx_ck (kwAx_if (kwAx_I (kwN_H171 _ _ _) fun _ _ _ => (kwAx_ck (kwAx_ck (kwAx_I (kwN_H171 _ _ _) fun _ _ _ => (kwAx_ck (kwAx_if (kwAx_I (kwN_H171 _ _ _) fun _ _ _ => (kwAx_ck (kwAx_ck (kwN_H172_317 _ _ _ _ _)))) (kwAx_I (kwN_H171 _ _ _) fun _ _ _ => (kwAx_ck (kwAx_ck (kwN_H172_317 _ _ _ _ _)))))))))) (kwAx_I (kwN_H171 _ _ _) fun _ _ _ => (kwAx_ck (kwAx_ck (kwAx_I (kwN_H171 _ _ _) fun _ _ _ => (kwAx_ck (kwAx_if (kwAx_I (kwN_H171 _ _ _) fun _ _ _ => (kwAx_ck (kwAx_ck (kwN_H172_317 _ _ _ _ _)))) (kwAx_I (kwN_H171 _ _ _) fun _ _ _ => (kwAx_ck (kwAx_ck (kwN_H172_317 _ _ _ _ _))))))))))))))))))) (kwAx_I (kwN_H171 _ _ _) fun _ _ _ => (kwAx_ck (kwAx_ck (kwAx_I (kwN_H171 _ _ _) fun _ _ _ => (kwAx_ck (kwAx_ck (kwAx_I (kwN_H171 _ _ _) fun _ _ _ => (kwAx_ck (kwAx_if (kwAx_I (kwN_H171 _ _ _) fun _ _ _ => (kwAx_ck (kwAx_ck (kwAx_I (kwN_H171 _ _ _) fun _ _ _ => (kwAx_ck (kwAx_if (kwAx_I (kwN_H171 _ _ _) fun _ _ _ => (kwAx_ck (kwAx_ck (kwN_H172_317 _ _ _ _ _)))) (kwAx_I (kwN_H171 _ _ _) fun _ _ _ => (kwAx_ck (kwAx_ck (kwN_H172_317 _ _ _ _ _)))))))))) (kwAx_I (kwN_H171 _ _ _) fun _ _ _ => (kwAx_ck (kwAx_ck (kwAx_I (kwN_H171 _ _ _) fun _ _ _ => (kwAx_ck (kwAx_if (kwAx_I (kwN_H171 _ _ _) fun _ _ _ => (kwAx_ck (kwAx_ck (kwN_H172_317 _ _ _ _ _)))) (kwAx_I (kwN_H171 _ _ _) fun _ _ _ => (kwAx_ck (kwAx_ck (kwN_H172_317 _ _ _ _ _))))))))))))))))))))))))) (kwAx_I (kwN_H171 _ _ _) fun _ _ _ => (kwAx_ck (kwAx_ck (kwAx_I (kwN_H171 _ _ _) fun _ _ _ => (kwAx_ck (kwAx_if (kwAx_I (kwN_H171 _ _ _) fun _ _ _ => (kwAx_ck (kwAx_ck (kwAx_I (kwN_H171 _ _ _) fun _ _ _ => (kwAx_ck (kwAx_ck (kwAx_I (kwN_H171 _ _ _) fun _ _ _ => (kwAx_ck (kwAx_if (kwAx_I (kwN_H171 _ _ _) fun _ _ _ => (kwAx_ck (kwAx_ck (kwAx_I (kwN_H171 _ _ _) fun _ _ _ => (kwAx_ck (kwAx_if (kwAx_I (kwN_H171 _ _ _) fun _ _ _ => (kwAx_ck (kwAx_ck (kwN_H172_317 _ _ _ _ _)))) (kwAx_I (kwN_H171 _ _ _) fun _ _ _ => (kwAx_ck (kwAx_ck (kwN_H172_317 _ _ _ _ _)))))))))) (kwAx_I (kwN_H171 _ _ _) fun _ _ _ => (kwAx_ck (kwAx_ck (kwAx_I (kwN_H171 _ _ _) fun _ _ _ => (kwAx_ck (kwAx_if (kwAx_I (kwN_H171 _ _ _) fun _ _ _ => (kwAx_ck (kwAx_ck (kwN_H172_317 _ _ _ _ _)))) (kwAx_I (kwN_H171 _ _ _) fun _ _ _ => (kwAx_ck (kwAx_ck (kwN_H172_317 _ _ _ _ _))))))))))))))))))) (kwAx_I (kwN_H171 _ _ _) fun _ _ _ => (kwAx_ck (kwAx_ck (kwAx_I (kwN_H171 _ _ _) fun _ _ _ => (kwAx_ck (kwAx_ck (kwAx_I (kwN_H171 _ _ _) fun _ _ _ => (kwAx_ck (kwAx_if (kwAx_I (kwN_H171 _ _ _) fun _ _ _ => (kwAx_ck (kwAx_ck (kwAx_I (kwN_H171 _ _ _) fun _ _ _ => (kwAx_ck (kwAx_if (kwAx_I (kwN_H171 _ _ _) fun _ _ _ => (kwAx_ck (kwAx_ck (kwN_H172_317 _ _ _ _ _)))) (kwAx_I (kwN_H171 _ _ _) fun _ _ _ => (kwAx_ck (kwAx_ck (kwN_H172_317 _ _ _ _ _)))))))))) (kwAx_I (kwN_H171 _ _ _) fun _ _ _ => (kwAx_ck (kwAx_ck (kwAx_I (kwN_H171 _ _ _) fun _ _ _ => (kwAx_ck (kwAx_if (kwAx_I (kwN_H171 _ _ _) fun _ _ _ => (kwAx_ck (kwAx_ck (kwN_H172_317 _ _ _ _ _)))) (kwAx_I (kwN_H171 _ _ _) fun _ _ _ => (kwAx_ck (kwAx_ck (kwN_H172_317 _ _ _ _ _))))))))))))))))))))))))))))))) (kwAx_I (kwN_H171 _ _ _) fun _ _ _ => (kwAx_ck (kwAx_ck (kwAx_I (kwN_H171 _ _ _) fun _ _ _ => (kwAx_ck (kwAx_if (kwAx_I (kwN_H171 _ _ _) fun _ _ _ => (kwAx_ck (kwAx_ck (kwAx_I (kwN_H171 _ _ _) fun _ _ _ => (kwAx_ck (kwAx_if (kwAx_I (kwN_H171 _ _ _) fun _ _ _ => (kwAx_ck (kwAx_ck (kwAx_I (kwN_H171 _ _ _) fun _ _ _ => (kwAx_ck (kwAx_ck (kwAx_I (kwN_H171 _ _ _) fun _ _ _ => (kwAx_ck (kwAx_if (kwAx_I (kwN_H171 _ _ _) fun _ _ _ => (kwAx_ck (kwAx_ck (kwAx_I (kwN_H171 _ _ _) fun _ _ _ => (kwAx_ck (kwAx_if (kwAx_I (kwN_H171 _ _ _) fun _ _ _ => (kwAx_ck (kwAx_ck (kwN_H172_317 _ _ _ _ _)))) (kwAx_I (kwN_H171 _ _ _) fun _ _ _ => (kwAx_ck (kwAx_ck (kwN_H172_317 _ _ _ _ _)))))))))) (kwAx_I (kwN_H171 _ _ _) fun _ _ _ => (kwAx_ck (kwAx_ck (kwAx_I (kwN_H171 _ _ _) fun _ _ _ => (kwAx_ck (kwAx_if (kwAx_I (kwN_H171 _ _ _) fun _ _ _ => (kwAx_ck (kwAx_ck (kwN_H172_317 _ _ _ _ _)))) (kwAx_I (kwN_H171 _ _ _) fun _ _ _ => (kwAx_ck (kwAx_ck (kwN_H172_317 _ _ _ _ _))))))))))))))))))) (kwAx_I (kwN_H171 _ _ _) fun _ _ _ => (kwAx_ck (kwAx_ck (kwAx_I (kwN_H171 _ _ _) fun _ _ _ => (kwAx_ck (kwAx_ck (kwAx_I (kwN_H171 _ _ _) fun _ _ _ => (kwAx_ck (kwAx_if (kwAx_I (kwN_H171 _ _ _) fun _ _ _ => (kwAx_ck (kwAx_ck (kwAx_I (kwN_H171 _ _ _) fun _ _ _ => (kwAx_ck (kwAx_if (kwAx_I (kwN_H171 _ _ _) fun _ _ _ => (kwAx_ck (kwAx_ck (kwN_H172_317 _ _ _ _ _)))) (kwAx_I (kwN_H171 _ _ _) fun _ _ _ => (kwAx_ck (kwAx_ck (kwN_H172_317 _ _ _ _ _)))))))))) (kwAx_I (kwN_H171 _ _ _) fun _ _ _ => (kwAx_ck (kwAx_ck (kwAx_I (kwN_H171 _ _ _) fun _ _ _ => (kwAx_ck (kwAx_if (kwAx_I (kwN_H171 _ _ _) fun _ _ _ => (kwAx_ck (kwAx_ck (kwN_H172_317 _ _ _ _ _)))) (kwAx_I (kwN_H171 _ _ _) fun _ _ _ => (kwAx_ck (kwAx_ck (kwN_H172_317 _ _ _ _ _))))))))))))))))))))))))) (kwAx_I (kwN_H171 _ _ _) fun _ _ _ => (kwAx_ck (kwAx_ck (kwAx_I (kwN_H171 _ _ _) fun _ _ _ => (kwAx_ck (kwAx_if (kwAx_I (kwN_H171 _ _ _) fun _ _ _ => (kwAx_ck (kwAx_ck (kwAx_I (kwN_H171 _ _ _) fun _ _ _ => (kwAx_ck (kwAx_ck (kwAx_I (kwN_H171 _ _ _) fun _ _ _ => (kwAx_ck (kwAx_if (kwAx_I (kwN_H171 _ _ _) fun _ _ _ => (kwAx_ck (kwAx_ck (kwAx_I (kwN_H171 _ _ _) fun _ _ _ => (kwAx_ck (kwAx_if (kwAx_I (kwN_H171 _ _ _) fun _ _ _ => (kwAx_ck (kwAx_ck (kwN_H172_317 _ _ _ _ _)))) (kwAx_I (kwN_H171 _ _ _) fun _ _ _ => (kwAx_ck (kwAx_ck (kwN_H172_317 _ _ _ _ _)))))))))) (kwAx_I (kwN_H171 _ _ _) fun _ _ _ => (kwAx_ck (kwAx_ck (kwAx_I (kwN_H171 _ _ _) fun _ _ _ => (kwAx_ck (kwAx_if (kwAx_I (kwN_H171 _ _ _) fun _ _ _ => (kwAx_ck (kwAx_ck (kwN_H172_317 _ _ _ _ _)))) (kwAx_I (kwN_H171 _ _ _) fun _ _ _ => (kwAx_ck (kwAx_ck (kwN_H172_317 _ _ _ _ _))))))))))))))))))) (kwAx_I (kwN_H171 _ _ _) fun _ _ _ => (kwAx_ck (kwAx_ck (kwAx_I (kwN_H171 _ _ _) fun _ _ _ => (kwAx_ck (kwAx_ck (kwAx_I (kwN_H171 _ _ _) fun _ _ _ => (kwAx_ck (kwAx_if (kwAx_I (kwN_H171 _ _ _) fun _ _ _ => (kwAx_ck (kwAx_ck (kwAx_I (kwN_H171 _ _ _) fun _ _ _ => (kwAx_ck (kwAx_if (kwAx_I (kwN_H171 _ _ _) fun _ _ _ => (kwAx_ck (kwAx_ck (kwN_H172_317 _ _ _ _ _)))) (kwAx_I (kwN_H171 _ _ _) fun _ _ _ => (kwAx_ck (kwAx_ck (kwN_H172_317 _ _ _ _ _)))))))))) (kwAx_I (kwN_H171 _ _ _) fun _ _ _ => (kwAx_ck (kwAx_ck (kwAx_I (kwN_H171 _ _ _) fun _ _ _ => (kwAx_ck (kwAx_if (kwAx_I (kwN_H171 _ _ _) fun _ _ _ => (kwAx_ck (kwAx_ck (kwN_H172_317 _ _ _ _ _)))) (kwAx_I (kwN_H171 _ _ _) fun _ _ _ => (kwAx_ck (kwAx_ck (kwN_H172_317 _ _ _ _ _)))))))))))))))))))))))))))))))))))))
