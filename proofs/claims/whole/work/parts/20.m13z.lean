theorem ret_eq {α : Type} {a res : α} (h : some a = some res) : res = a := (Option.some.inj h).symm
