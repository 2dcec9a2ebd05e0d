theorem elim_l {α β γ : Type} {f : α → γ} {g : β → γ} {a : α} {x : γ} (h : Sum.elim f g (.inl a) = x) : f a = x := h
theorem elim_r {α β γ : Type} {f : α → γ} {g : β → γ} {b : β} {x : γ} (h : Sum.elim f g (.inr b) = x) : g b = x := h
