/-! printed by wip/whole/emit2.py: the law -/

