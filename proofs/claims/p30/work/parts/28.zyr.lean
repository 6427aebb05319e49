/-! ===== the reference exactly: turn, bind, drop, latch, pattern, undo, buy ===== -/
section ES
variable {xm : Nat → Option kE} {mem : kM} {N M0 nb k C S ck b n : Nat} {F : kSg} {g : Nat → Int32} {sum : Int64} {t jo x y : Int32} {lo : List kLf} {bo pa vl vr ya : List Int32} {ps : List aS} {rs : List (List Int32)} {sc : Nat → Int32} {st : aS} {T : kO × kM → Prop} {sp : aR}
theorem zBind1_at {p : Nat} (hp : p < vr.length) (h : p = vr.length - (if vr.length = 1 then 1 else 2)) : zBind1 (lo, bo, (vl, vr, rs, ya, sc)) = (lo, bo ++ [vr[p]], (vl, vr.eraseIdx p, rs, ya, kUp sc 7 (sc 7 + 1))) := by
  show (lo, bo ++ [vr.getD (vr.length - (if vr.length = 1 then 1 else 2)) 0], (vl, vr.eraseIdx (vr.length - (if vr.length = 1 then 1 else 2)), rs, ya, kUp sc 7 (sc 7 + 1))) = _
  rw [← h, List.getD_eq_getElem?_getD, List.getElem?_eq_getElem hp]
  rfl
theorem pZ_more : ∀ (f n : Nat), n < 10 ^ f → pZ (f + 1) n = pZ f n := by
  intro f
  induction f with
  | zero =>
    intro n hn
    have e : n = 0 := by simpa using hn
    subst e
    rfl
  | succ f ih =>
    intro n hn
    have h := ih (n / 10) (by rw [Nat.pow_succ] at hn; omega)
    show (if 0 < n then (if n % 10 = 0 then true else pZ (f + 1) (n / 10)) else false) = (if 0 < n then (if n % 10 = 0 then true else pZ f (n / 10)) else false)
    rw [h]
theorem pZ_add (j : Nat) : ∀ (f n : Nat), n < 10 ^ f → pZ (f + j) n = pZ f n := by
  induction j with
  | zero => intro f n _; rfl
  | succ j ih =>
    intro f n hn
    have h1 : n < 10 ^ (f + j) := Nat.lt_of_lt_of_le hn (Nat.pow_le_pow_right (by decide) (by omega))
    rw [← Nat.add_assoc, pZ_more _ _ h1, ih f n hn]
end ES
