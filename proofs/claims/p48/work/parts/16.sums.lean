/-! Returned or thrown: what a call's outcome says. -/
theorem nlr {α β : Type} {a : α} {b : β} {P : Prop} (h : (some (Sum.inl a) : Option (α ⊕ β)) = some (Sum.inr b)) : P := nomatch h
theorem jr {α β : Type} {a b : β} (h : (some (Sum.inr a) : Option (α ⊕ β)) = some (Sum.inr b)) : a = b := Sum.inr.inj (Option.some.inj h)
theorem se_l {α β γ : Type} {f : α → γ} {g : β → γ} {a : α} {o : γ} (h : Sum.elim f g (Sum.inl a) = o) : f a = o := h
theorem se_r {α β γ : Type} {f : α → γ} {g : β → γ} {a : β} {o : γ} (h : Sum.elim f g (Sum.inr a) = o) : g a = o := h
